/-! ===== part 22: mirrors and what they say (written by wip/whole/mir.py) ===== -/
def b_Buried_humOf (l1 : Int32) (l2 : Int32) (l3 : Int32) (M : I_M) : Option (Int32 × I_M) :=
  i_g l1 6 (Option.bind (b_Land_far (i_rem l2 (100 : Int32)) (M.1 14 (Int32.toNatClampNeg l1)) M) (fun q2 => i_let (i_abs ((l2 / (100 : Int32)) - (q2.2.1 15 (Int32.toNatClampNeg l1)))) (fun x3 => Option.bind (b_Law_loudness q2.1 x3 (q2.2.1 16 (Int32.toNatClampNeg l1)) (q2.2.1 14 (Int32.toNatClampNeg l1)) l3 q2.2) (fun q4 => (if (q4.2.1 17 (Int32.toNatClampNeg l1)) = (0 : Int32) then
      some (q4.1, q4.2)
    else
      some ((q4.1 / (2 : Int32)), q4.2))))))
theorem ok_b_Buried_humOf {X : Nat × (Nat → Int32)} {d : Nat} {l1 : Int32} {l2 : Int32} {l3 : Int32} {M : I_M} {r : (Int32 × I_M)} (hd : 5 ≤ d) (h : b_Buried_humOf l1 l2 l3 M = some r) : I_Ex d 66 [.ref 13, .int l1, .int l2, .int l3] (i_S X M) (some (.int r.1)) (i_S X r.2) := by
  obtain ⟨d, rfl⟩ : ∃ d1, d = d1 + 1 := ⟨d - 1, by omega⟩
  unfold b_Buried_humOf at h
  refine i_ex (e := i_r66) (lv := [some (.ref 13), some (.int l1), some (.int l2), some (.int l3), none, none, none]) rfl (Nat.le_of_ble_eq_true rfl) rfl ?_
  show I_RnE (I_Ex d) i_c66 (0, [some (.ref 13), some (.int l1), some (.int l2), some (.int l3), none, none, none], [], i_S X M) _ _
  refine i_rs 4 (cf' := (7, [some (.ref 13), some (.int l1), some (.int l2), some (.int l3), none, none, none], [.int (100 : Int32), .int l2, .ref 1], i_S X M)) rfl ?_
  refine i_rrem (cf' := (8, [some (.ref 13), some (.int l1), some (.int l2), some (.int l3), none, none, none], [.int (i_rem l2 (100 : Int32)), .ref 1], i_S X M)) rfl (by decide) rfl ?_
  refine i_rs 3 (cf' := (13, [some (.ref 13), some (.int l1), some (.int l2), some (.int l3), none, none, none], [.int l1, .ref 14, .int (i_rem l2 (100 : Int32)), .ref 1], i_S X M)) rfl ?_
  obtain ⟨g1, h⟩ := i_gE h
  refine i_riald (n := 6) (cf' := (14, [some (.ref 13), some (.int l1), some (.int l2), some (.int l3), none, none, none], [.int (M.1 14 (Int32.toNatClampNeg l1)), .int (i_rem l2 (100 : Int32)), .ref 1], i_S X M)) rfl rfl (by decide) g1 rfl ?_
  obtain ⟨q2, hq2, h⟩ := i_bdE h
  refine i_rcall (k := 67) (as := [.ref 1, .int (i_rem l2 (100 : Int32)), .int (M.1 14 (Int32.toNatClampNeg l1))]) (cf1 := (17, [some (.ref 13), some (.int l1), some (.int l2), some (.int l3), none, none, none], [], i_S X M)) (cf' := (17, [some (.ref 13), some (.int l1), some (.int l2), some (.int l3), none, none, none], [.int q2.1], i_S X q2.2)) rfl (ok_b_Land_far (by omega) hq2) rfl ?_
  refine i_rs 3 (cf' := (22, [some (.ref 13), some (.int l1), some (.int l2), some (.int l3), some (.int q2.1), none, none], [.int (100 : Int32), .int l2], i_S X q2.2)) rfl ?_
  refine i_rdiv (cf' := (23, [some (.ref 13), some (.int l1), some (.int l2), some (.int l3), some (.int q2.1), none, none], [.int (l2 / (100 : Int32))], i_S X q2.2)) rfl (by decide) rfl ?_
  refine i_rs 3 (cf' := (28, [some (.ref 13), some (.int l1), some (.int l2), some (.int l3), some (.int q2.1), none, none], [.int l1, .ref 15, .int (l2 / (100 : Int32))], i_S X q2.2)) rfl ?_
  refine i_riald (n := 6) (cf' := (29, [some (.ref 13), some (.int l1), some (.int l2), some (.int l3), some (.int q2.1), none, none], [.int (q2.2.1 15 (Int32.toNatClampNeg l1)), .int (l2 / (100 : Int32))], i_S X q2.2)) rfl rfl (by decide) g1 rfl ?_
  refine i_rs 2 (cf' := (33, [some (.ref 13), some (.int l1), some (.int l2), some (.int l3), some (.int q2.1), none, none], [.int (i_abs ((l2 / (100 : Int32)) - (q2.2.1 15 (Int32.toNatClampNeg l1))))], i_S X q2.2)) rfl ?_
  obtain ⟨x3, ex3, h⟩ := i_letE h
  refine i_cfe (cf' := (33, [some (.ref 13), some (.int l1), some (.int l2), some (.int l3), some (.int q2.1), none, none], [.int x3], i_S X q2.2)) (by rw [ex3]) ?_
  refine i_rs 8 (cf' := (48, [some (.ref 13), some (.int l1), some (.int l2), some (.int l3), some (.int q2.1), some (.int x3), none], [.int l1, .ref 16, .int x3, .int q2.1, .ref 9], i_S X q2.2)) rfl ?_
  refine i_riald (n := 6) (cf' := (49, [some (.ref 13), some (.int l1), some (.int l2), some (.int l3), some (.int q2.1), some (.int x3), none], [.int (q2.2.1 16 (Int32.toNatClampNeg l1)), .int x3, .int q2.1, .ref 9], i_S X q2.2)) rfl rfl (by decide) g1 rfl ?_
  refine i_rs 3 (cf' := (54, [some (.ref 13), some (.int l1), some (.int l2), some (.int l3), some (.int q2.1), some (.int x3), none], [.int l1, .ref 14, .int (q2.2.1 16 (Int32.toNatClampNeg l1)), .int x3, .int q2.1, .ref 9], i_S X q2.2)) rfl ?_
  refine i_riald (n := 6) (cf' := (55, [some (.ref 13), some (.int l1), some (.int l2), some (.int l3), some (.int q2.1), some (.int x3), none], [.int (q2.2.1 14 (Int32.toNatClampNeg l1)), .int (q2.2.1 16 (Int32.toNatClampNeg l1)), .int x3, .int q2.1, .ref 9], i_S X q2.2)) rfl rfl (by decide) g1 rfl ?_
  refine i_rs 1 (cf' := (56, [some (.ref 13), some (.int l1), some (.int l2), some (.int l3), some (.int q2.1), some (.int x3), none], [.int l3, .int (q2.2.1 14 (Int32.toNatClampNeg l1)), .int (q2.2.1 16 (Int32.toNatClampNeg l1)), .int x3, .int q2.1, .ref 9], i_S X q2.2)) rfl ?_
  obtain ⟨q4, hq4, h⟩ := i_bdE h
  refine i_rcall (k := 68) (as := [.ref 9, .int q2.1, .int x3, .int (q2.2.1 16 (Int32.toNatClampNeg l1)), .int (q2.2.1 14 (Int32.toNatClampNeg l1)), .int l3]) (cf1 := (59, [some (.ref 13), some (.int l1), some (.int l2), some (.int l3), some (.int q2.1), some (.int x3), none], [], i_S X q2.2)) (cf' := (59, [some (.ref 13), some (.int l1), some (.int l2), some (.int l3), some (.int q2.1), some (.int x3), none], [.int q4.1], i_S X q4.2)) rfl (ok_b_Law_loudness (by omega) hq4) rfl ?_
  refine i_rs 4 (cf' := (66, [some (.ref 13), some (.int l1), some (.int l2), some (.int l3), some (.int q2.1), some (.int x3), some (.int q4.1)], [.int l1, .ref 17], i_S X q4.2)) rfl ?_
  refine i_riald (n := 6) (cf' := (67, [some (.ref 13), some (.int l1), some (.int l2), some (.int l3), some (.int q2.1), some (.int x3), some (.int q4.1)], [.int (q4.2.1 17 (Int32.toNatClampNeg l1))], i_S X q4.2)) rfl rfl (by decide) g1 rfl ?_
  by_cases c5 : (q4.2.1 17 (Int32.toNatClampNeg l1)) = (0 : Int32)
  · replace h := (if_pos c5).symm.trans h
    refine i_rbT (c := (q4.2.1 17 (Int32.toNatClampNeg l1)) = (0 : Int32)) (t := 70) (n := 75) rfl c5 ?_
    refine i_rs 2 (cf' := (79, [some (.ref 13), some (.int l1), some (.int l2), some (.int l3), some (.int q2.1), some (.int x3), some (.int q4.1)], [.int q4.1], i_S X q4.2)) rfl ?_
    obtain rfl := Option.some.inj h
    exact i_rret rfl rfl
  · replace h := (if_neg c5).symm.trans h
    refine i_rbF (c := (q4.2.1 17 (Int32.toNatClampNeg l1)) = (0 : Int32)) (t := 70) (n := 75) rfl c5 ?_
    refine i_rs 2 (cf' := (78, [some (.ref 13), some (.int l1), some (.int l2), some (.int l3), some (.int q2.1), some (.int x3), some (.int q4.1)], [.int (2 : Int32), .int q4.1], i_S X q4.2)) rfl ?_
    refine i_rdiv (cf' := (79, [some (.ref 13), some (.int l1), some (.int l2), some (.int l3), some (.int q2.1), some (.int x3), some (.int q4.1)], [.int (q4.1 / (2 : Int32))], i_S X q4.2)) rfl (by decide) rfl ?_
    obtain rfl := Option.some.inj h
    exact i_rret rfl rfl
def b_hum (l1 : Int32) (l2 : Int32) (l3 : Int32) (M : I_M) : Option (Int32 × I_M) :=
  Option.bind (b_Buried_has l1 M) (fun q1 => (if q1.1 = (0 : Int32) then
      some ((-1 : Int32), q1.2)
    else
      Option.bind (b_Land_isStrike l2 q1.2) (fun q3 => (if q3.1 = (0 : Int32) then
        some ((-1 : Int32), q3.2)
      else
        Option.bind (b_Land_has l3 q3.2) (fun q5 => (if q5.1 = (0 : Int32) then
          some ((-1 : Int32), q5.2)
        else
          Option.bind (b_Buried_humOf l1 l2 l3 q5.2) (fun q7 => some (q7.1, q7.2))))))))
theorem ok_b_hum {X : Nat × (Nat → Int32)} {d : Nat} {l1 : Int32} {l2 : Int32} {l3 : Int32} {M : I_M} {r : (Int32 × I_M)} (hd : 6 ≤ d) (h : b_hum l1 l2 l3 M = some r) : I_Ex d 64 [.ref 0, .int l1, .int l2, .int l3] (i_S X M) (some (.int r.1)) (i_S X r.2) := by
  obtain ⟨d, rfl⟩ : ∃ d1, d = d1 + 1 := ⟨d - 1, by omega⟩
  unfold b_hum at h
  refine i_ex (e := i_r64) (lv := [some (.ref 0), some (.int l1), some (.int l2), some (.int l3)]) rfl (Nat.le_of_ble_eq_true rfl) rfl ?_
  show I_RnE (I_Ex d) i_c64 (0, [some (.ref 0), some (.int l1), some (.int l2), some (.int l3)], [], i_S X M) _ _
  refine i_rs 3 (cf' := (5, [some (.ref 0), some (.int l1), some (.int l2), some (.int l3)], [.int l1, .ref 13], i_S X M)) rfl ?_
  obtain ⟨q1, hq1, h⟩ := i_bdE h
  refine i_rcall (k := 30) (as := [.ref 13, .int l1]) (cf1 := (8, [some (.ref 0), some (.int l1), some (.int l2), some (.int l3)], [], i_S X M)) (cf' := (8, [some (.ref 0), some (.int l1), some (.int l2), some (.int l3)], [.int q1.1], i_S X q1.2)) rfl (ok_b_Buried_has (by omega) hq1) rfl ?_
  by_cases c2 : q1.1 = (0 : Int32)
  · replace h := (if_pos c2).symm.trans h
    refine i_rbT (c := q1.1 = (0 : Int32)) (t := 33) (n := 11) rfl c2 ?_
    refine i_rs 1 (cf' := (34, [some (.ref 0), some (.int l1), some (.int l2), some (.int l3)], [.int (-1 : Int32)], i_S X q1.2)) rfl ?_
    obtain rfl := Option.some.inj h
    exact i_rret rfl rfl
  · replace h := (if_neg c2).symm.trans h
    refine i_rbF (c := q1.1 = (0 : Int32)) (t := 33) (n := 11) rfl c2 ?_
    refine i_rs 3 (cf' := (16, [some (.ref 0), some (.int l1), some (.int l2), some (.int l3)], [.int l2, .ref 1], i_S X q1.2)) rfl ?_
    obtain ⟨q3, hq3, h⟩ := i_bdE h
    refine i_rcall (k := 65) (as := [.ref 1, .int l2]) (cf1 := (19, [some (.ref 0), some (.int l1), some (.int l2), some (.int l3)], [], i_S X q1.2)) (cf' := (19, [some (.ref 0), some (.int l1), some (.int l2), some (.int l3)], [.int q3.1], i_S X q3.2)) rfl (ok_b_Land_isStrike (by omega) hq3) rfl ?_
    by_cases c4 : q3.1 = (0 : Int32)
    · replace h := (if_pos c4).symm.trans h
      refine i_rbT (c := q3.1 = (0 : Int32)) (t := 33) (n := 22) rfl c4 ?_
      refine i_rs 1 (cf' := (34, [some (.ref 0), some (.int l1), some (.int l2), some (.int l3)], [.int (-1 : Int32)], i_S X q3.2)) rfl ?_
      obtain rfl := Option.some.inj h
      exact i_rret rfl rfl
    · replace h := (if_neg c4).symm.trans h
      refine i_rbF (c := q3.1 = (0 : Int32)) (t := 33) (n := 22) rfl c4 ?_
      refine i_rs 3 (cf' := (27, [some (.ref 0), some (.int l1), some (.int l2), some (.int l3)], [.int l3, .ref 1], i_S X q3.2)) rfl ?_
      obtain ⟨q5, hq5, h⟩ := i_bdE h
      refine i_rcall (k := 20) (as := [.ref 1, .int l3]) (cf1 := (30, [some (.ref 0), some (.int l1), some (.int l2), some (.int l3)], [], i_S X q3.2)) (cf' := (30, [some (.ref 0), some (.int l1), some (.int l2), some (.int l3)], [.int q5.1], i_S X q5.2)) rfl (ok_b_Land_has (by omega) hq5) rfl ?_
      by_cases c6 : q5.1 = (0 : Int32)
      · replace h := (if_pos c6).symm.trans h
        refine i_rbT (c := q5.1 = (0 : Int32)) (t := 33) (n := 35) rfl c6 ?_
        refine i_rs 1 (cf' := (34, [some (.ref 0), some (.int l1), some (.int l2), some (.int l3)], [.int (-1 : Int32)], i_S X q5.2)) rfl ?_
        obtain rfl := Option.some.inj h
        exact i_rret rfl rfl
      · replace h := (if_neg c6).symm.trans h
        refine i_rbF (c := q5.1 = (0 : Int32)) (t := 33) (n := 35) rfl c6 ?_
        refine i_rs 5 (cf' := (42, [some (.ref 0), some (.int l1), some (.int l2), some (.int l3)], [.int l3, .int l2, .int l1, .ref 13], i_S X q5.2)) rfl ?_
        obtain ⟨q7, hq7, h⟩ := i_bdE h
        refine i_rcall (k := 66) (as := [.ref 13, .int l1, .int l2, .int l3]) (cf1 := (45, [some (.ref 0), some (.int l1), some (.int l2), some (.int l3)], [], i_S X q5.2)) (cf' := (45, [some (.ref 0), some (.int l1), some (.int l2), some (.int l3)], [.int q7.1], i_S X q7.2)) rfl (ok_b_Buried_humOf (by omega) hq7) rfl ?_
        obtain rfl := Option.some.inj h
        exact i_rret rfl rfl
def r_isNc (l1 : Int32) (M : I_M) : Option (Int32 × I_M) :=
  Option.bind (r_within (Int32.toInt64 l1) (0 : Int64) (999 : Int64) M) (fun q1 => (if q1.1 = (0 : Int32) then
      some ((0 : Int32), q1.2)
    else
      Option.bind (r_isCell (i_rem l1 (100 : Int32)) q1.2) (fun q3 => (if q3.1 = (0 : Int32) then
        some ((0 : Int32), q3.2)
      else
        some ((1 : Int32), q3.2)))))
theorem ok_r_isNc {X : Nat × (Nat → Int32)} {d : Nat} {l1 : Int32} {M : I_M} {r : (Int32 × I_M)} (hd : 3 ≤ d) (h : r_isNc l1 M = some r) : I_Ex d 203 [.ref 50, .int l1] (i_S X M) (some (.int r.1)) (i_S X r.2) := by
  obtain ⟨d, rfl⟩ : ∃ d1, d = d1 + 1 := ⟨d - 1, by omega⟩
  unfold r_isNc at h
  refine i_ex (e := i_r203) (lv := [some (.ref 50), some (.int l1)]) rfl (Nat.le_of_ble_eq_true rfl) rfl ?_
  show I_RnE (I_Ex d) i_c203 (0, [some (.ref 50), some (.int l1)], [], i_S X M) _ _
  refine i_rs 4 (cf' := (6, [some (.ref 50), some (.int l1)], [.long (999 : Int64), .long (0 : Int64), .long (Int32.toInt64 l1)], i_S X M)) rfl ?_
  obtain ⟨q1, hq1, h⟩ := i_bdE h
  refine i_rcall (k := 175) (as := [.long (Int32.toInt64 l1), .long (0 : Int64), .long (999 : Int64)]) (cf1 := (9, [some (.ref 50), some (.int l1)], [], i_S X M)) (cf' := (9, [some (.ref 50), some (.int l1)], [.int q1.1], i_S X q1.2)) rfl (ok_r_within (by omega) hq1) rfl ?_
  by_cases c2 : q1.1 = (0 : Int32)
  · replace h := (if_pos c2).symm.trans h
    refine i_rbT (c := q1.1 = (0 : Int32)) (t := 27) (n := 12) rfl c2 ?_
    refine i_rs 1 (cf' := (28, [some (.ref 50), some (.int l1)], [.int (0 : Int32)], i_S X q1.2)) rfl ?_
    obtain rfl := Option.some.inj h
    exact i_rretZ rfl (Or.inl rfl) rfl
  · replace h := (if_neg c2).symm.trans h
    refine i_rbF (c := q1.1 = (0 : Int32)) (t := 27) (n := 12) rfl c2 ?_
    refine i_rs 3 (cf' := (16, [some (.ref 50), some (.int l1)], [.int (100 : Int32), .int l1, .ref 50], i_S X q1.2)) rfl ?_
    refine i_rrem (cf' := (17, [some (.ref 50), some (.int l1)], [.int (i_rem l1 (100 : Int32)), .ref 50], i_S X q1.2)) rfl (by decide) rfl ?_
    obtain ⟨q3, hq3, h⟩ := i_bdE h
    refine i_rcall (k := 183) (as := [.ref 50, .int (i_rem l1 (100 : Int32))]) (cf1 := (20, [some (.ref 50), some (.int l1)], [], i_S X q1.2)) (cf' := (20, [some (.ref 50), some (.int l1)], [.int q3.1], i_S X q3.2)) rfl (ok_r_isCell (by omega) hq3) rfl ?_
    by_cases c4 : q3.1 = (0 : Int32)
    · replace h := (if_pos c4).symm.trans h
      refine i_rbT (c := q3.1 = (0 : Int32)) (t := 27) (n := 23) rfl c4 ?_
      refine i_rs 1 (cf' := (28, [some (.ref 50), some (.int l1)], [.int (0 : Int32)], i_S X q3.2)) rfl ?_
      obtain rfl := Option.some.inj h
      exact i_rretZ rfl (Or.inl rfl) rfl
    · replace h := (if_neg c4).symm.trans h
      refine i_rbF (c := q3.1 = (0 : Int32)) (t := 27) (n := 23) rfl c4 ?_
      refine i_rs 2 (cf' := (28, [some (.ref 50), some (.int l1)], [.int (1 : Int32)], i_S X q3.2)) rfl ?_
      obtain rfl := Option.some.inj h
      exact i_rretZ rfl (Or.inr rfl) rfl
def r_farOf_B39 (l4 : Int32) (s0 : Int32) (M : I_M) : Option (Int32 × I_M) :=
  (if l4 < (0 : Int32) then
      some ((s0 + (-l4)), M)
    else
      some ((s0 + l4), M))
theorem ok_r_farOf_B39 {X : Nat × (Nat → Int32)} {d : Nat} {l4 : Int32} {s0 : Int32} {M : I_M} {r : (Int32 × I_M)} (hd : 1 ≤ d + 1) (h : r_farOf_B39 l4 s0 M = some r) : I_RnE (I_Ex d) i_c206 (39, [none, none, none, none, some (.int l4)], [.int s0], i_S X M) (some (.int r.1)) (i_S X r.2) := by
  unfold r_farOf_B39 at h
  refine i_rs 1 (cf' := (41, [none, none, none, none, some (.int l4)], [.int l4, .int s0], i_S X M)) rfl ?_
  by_cases c1 : l4 < (0 : Int32)
  · replace h := (if_pos c1).symm.trans h
    refine i_rbT (c := l4 < (0 : Int32)) (t := 44) (n := 50) rfl c1 ?_
    refine i_rs 4 (cf' := (53, [none, none, none, none, some (.int l4)], [.int (s0 + (-l4))], i_S X M)) rfl ?_
    obtain rfl := Option.some.inj h
    exact i_rret rfl rfl
  · replace h := (if_neg c1).symm.trans h
    refine i_rbF (c := l4 < (0 : Int32)) (t := 44) (n := 50) rfl c1 ?_
    refine i_rs 2 (cf' := (53, [none, none, none, none, some (.int l4)], [.int (s0 + l4)], i_S X M)) rfl ?_
    obtain rfl := Option.some.inj h
    exact i_rret rfl rfl
def r_farOf (l1 : Int32) (l2 : Int32) (M : I_M) : Option (Int32 × I_M) :=
  i_nz (M.1 50 7) (i_nz (M.1 50 7) (i_nz (M.1 50 7) (i_nz (M.1 50 7) ((if ((l1 / (M.1 50 7)) - (l2 / (M.1 50 7))) < (0 : Int32) then
      r_farOf_B39 ((i_rem l1 (M.1 50 7)) - (i_rem l2 (M.1 50 7))) (-((l1 / (M.1 50 7)) - (l2 / (M.1 50 7)))) M
    else
      r_farOf_B39 ((i_rem l1 (M.1 50 7)) - (i_rem l2 (M.1 50 7))) ((l1 / (M.1 50 7)) - (l2 / (M.1 50 7))) M)))))
theorem ok_r_farOf {X : Nat × (Nat → Int32)} {d : Nat} {l1 : Int32} {l2 : Int32} {M : I_M} {r : (Int32 × I_M)} (hd : 1 ≤ d) (h : r_farOf l1 l2 M = some r) : I_Ex d 206 [.ref 50, .int l1, .int l2] (i_S X M) (some (.int r.1)) (i_S X r.2) := by
  obtain ⟨d, rfl⟩ : ∃ d1, d = d1 + 1 := ⟨d - 1, by omega⟩
  unfold r_farOf at h
  refine i_ex (e := i_r206) (lv := [some (.ref 50), some (.int l1), some (.int l2), none, none]) rfl (Nat.le_of_ble_eq_true rfl) rfl ?_
  show I_RnE (I_Ex d) i_c206 (0, [some (.ref 50), some (.int l1), some (.int l2), none, none], [], i_S X M) _ _
  refine i_rs 3 (cf' := (5, [some (.ref 50), some (.int l1), some (.int l2), none, none], [.int (M.1 50 7), .int l1], i_S X M)) rfl ?_
  obtain ⟨g2, h⟩ := i_nzE h
  refine i_rdiv (cf' := (6, [some (.ref 50), some (.int l1), some (.int l2), none, none], [.int (l1 / (M.1 50 7))], i_S X M)) rfl g2 rfl ?_
  refine i_rs 3 (cf' := (11, [some (.ref 50), some (.int l1), some (.int l2), none, none], [.int (M.1 50 7), .int l2, .int (l1 / (M.1 50 7))], i_S X M)) rfl ?_
  obtain ⟨g3, h⟩ := i_nzE h
  refine i_rdiv (cf' := (12, [some (.ref 50), some (.int l1), some (.int l2), none, none], [.int (l2 / (M.1 50 7)), .int (l1 / (M.1 50 7))], i_S X M)) rfl g3 rfl ?_
  refine i_rs 5 (cf' := (19, [some (.ref 50), some (.int l1), some (.int l2), some (.int ((l1 / (M.1 50 7)) - (l2 / (M.1 50 7)))), none], [.int (M.1 50 7), .int l1], i_S X M)) rfl ?_
  obtain ⟨g4, h⟩ := i_nzE h
  refine i_rrem (cf' := (20, [some (.ref 50), some (.int l1), some (.int l2), some (.int ((l1 / (M.1 50 7)) - (l2 / (M.1 50 7)))), none], [.int (i_rem l1 (M.1 50 7))], i_S X M)) rfl g4 rfl ?_
  refine i_rs 3 (cf' := (25, [some (.ref 50), some (.int l1), some (.int l2), some (.int ((l1 / (M.1 50 7)) - (l2 / (M.1 50 7)))), none], [.int (M.1 50 7), .int l2, .int (i_rem l1 (M.1 50 7))], i_S X M)) rfl ?_
  obtain ⟨g5, h⟩ := i_nzE h
  refine i_rrem (cf' := (26, [some (.ref 50), some (.int l1), some (.int l2), some (.int ((l1 / (M.1 50 7)) - (l2 / (M.1 50 7)))), none], [.int (i_rem l2 (M.1 50 7)), .int (i_rem l1 (M.1 50 7))], i_S X M)) rfl g5 rfl ?_
  refine i_rs 3 (cf' := (30, [some (.ref 50), some (.int l1), some (.int l2), some (.int ((l1 / (M.1 50 7)) - (l2 / (M.1 50 7)))), some (.int ((i_rem l1 (M.1 50 7)) - (i_rem l2 (M.1 50 7))))], [.int ((l1 / (M.1 50 7)) - (l2 / (M.1 50 7)))], i_S X M)) rfl ?_
  by_cases c6 : ((l1 / (M.1 50 7)) - (l2 / (M.1 50 7))) < (0 : Int32)
  · replace h := (if_pos c6).symm.trans h
    refine i_rbT (c := ((l1 / (M.1 50 7)) - (l2 / (M.1 50 7))) < (0 : Int32)) (t := 33) (n := 38) rfl c6 ?_
    refine i_rs 3 (cf' := (39, [some (.ref 50), some (.int l1), some (.int l2), some (.int ((l1 / (M.1 50 7)) - (l2 / (M.1 50 7)))), some (.int ((i_rem l1 (M.1 50 7)) - (i_rem l2 (M.1 50 7))))], [.int (-((l1 / (M.1 50 7)) - (l2 / (M.1 50 7))))], i_S X M)) rfl ?_
    refine i_fg (lv' := [none, none, none, none, some (.int ((i_rem l1 (M.1 50 7)) - (i_rem l2 (M.1 50 7))))]) (And.intro rfl True.intro) ?_
    exact ok_r_farOf_B39 (by omega) h
  · replace h := (if_neg c6).symm.trans h
    refine i_rbF (c := ((l1 / (M.1 50 7)) - (l2 / (M.1 50 7))) < (0 : Int32)) (t := 33) (n := 38) rfl c6 ?_
    refine i_rs 1 (cf' := (39, [some (.ref 50), some (.int l1), some (.int l2), some (.int ((l1 / (M.1 50 7)) - (l2 / (M.1 50 7)))), some (.int ((i_rem l1 (M.1 50 7)) - (i_rem l2 (M.1 50 7))))], [.int ((l1 / (M.1 50 7)) - (l2 / (M.1 50 7)))], i_S X M)) rfl ?_
    refine i_fg (lv' := [none, none, none, none, some (.int ((i_rem l1 (M.1 50 7)) - (i_rem l2 (M.1 50 7))))]) (And.intro rfl True.intro) ?_
    exact ok_r_farOf_B39 (by omega) h
def r_humOf_B172 (l11 : Int32) (M : I_M) : Option (Int32 × I_M) :=
  (if l11 < (0 : Int32) then
      some ((0 : Int32), M)
    else
      (if (99 : Int32) < l11 then
        some ((99 : Int32), M)
      else
        some (l11, M)))
theorem ok_r_humOf_B172 {X : Nat × (Nat → Int32)} {d : Nat} {l11 : Int32} {M : I_M} {r : (Int32 × I_M)} (hd : 67 ≤ d + 1) (h : r_humOf_B172 l11 M = some r) : I_RnE (I_Ex d) i_c205 (172, [none, none, none, none, none, none, none, none, none, none, none, some (.int l11)], [], i_S X M) (some (.int r.1)) (i_S X r.2) := by
  unfold r_humOf_B172 at h
  refine i_rs 1 (cf' := (174, [none, none, none, none, none, none, none, none, none, none, none, some (.int l11)], [.int l11], i_S X M)) rfl ?_
  by_cases c5 : l11 < (0 : Int32)
  · replace h := (if_pos c5).symm.trans h
    refine i_rbT (c := l11 < (0 : Int32)) (t := 177) (n := 181) rfl c5 ?_
    refine i_rs 2 (cf' := (195, [none, none, none, none, none, none, none, none, none, none, none, some (.int l11)], [.int (0 : Int32)], i_S X M)) rfl ?_
    obtain rfl := Option.some.inj h
    exact i_rret rfl rfl
  · replace h := (if_neg c5).symm.trans h
    refine i_rbF (c := l11 < (0 : Int32)) (t := 177) (n := 181) rfl c5 ?_
    refine i_rs 2 (cf' := (185, [none, none, none, none, none, none, none, none, none, none, none, some (.int l11)], [.int (99 : Int32), .int l11], i_S X M)) rfl ?_
    by_cases c6 : (99 : Int32) < l11
    · replace h := (if_pos c6).symm.trans h
      refine i_rbT (c := (99 : Int32) < l11) (t := 188) (n := 193) rfl c6 ?_
      refine i_rs 2 (cf' := (195, [none, none, none, none, none, none, none, none, none, none, none, some (.int l11)], [.int (99 : Int32)], i_S X M)) rfl ?_
      obtain rfl := Option.some.inj h
      exact i_rret rfl rfl
    · replace h := (if_neg c6).symm.trans h
      refine i_rbF (c := (99 : Int32) < l11) (t := 188) (n := 193) rfl c6 ?_
      refine i_rs 1 (cf' := (195, [none, none, none, none, none, none, none, none, none, none, none, some (.int l11)], [.int l11], i_S X M)) rfl ?_
      obtain rfl := Option.some.inj h
      exact i_rret rfl rfl
def r_humOf_B35 (l1 : Int32) (l3 : Int32) (l7 : Int32) (l8 : Int32) (s0 : Int32) (M : I_M) : Option (Int32 × I_M) :=
  i_g l1 60 (i_let ((((((((40 : Int32) + ((5 : Int32) * (M.1 51 57))) - ((2 : Int32) * l7)) - ((3 : Int32) * l8)) - ((6 : Int32) * s0)) - l3) - (M.1 51 (Int32.toNatClampNeg l1))) - (M.1 51 56)) (fun x2 => (if (M.1 50 17) < (0 : Int32) then
      r_humOf_B172 x2 M
    else
      Option.bind (r_workOut (0 : Int32) (M.1 50 17) (i_wI (i_wI (i_wI (i_wI (i_wI (i_wI (i_wI M 60 0 l7) 60 1 l8) 60 2 s0) 60 3 l3) 60 4 (M.1 51 (Int32.toNatClampNeg l1))) 60 5 (M.1 51 56)) 60 6 (M.1 51 57))) (fun q4 => r_humOf_B172 q4.1 q4.2))))
theorem ok_r_humOf_B35 {X : Nat × (Nat → Int32)} {d : Nat} {l1 : Int32} {l3 : Int32} {l7 : Int32} {l8 : Int32} {s0 : Int32} {M : I_M} {r : (Int32 × I_M)} (hd : 67 ≤ d + 1) (h : r_humOf_B35 l1 l3 l7 l8 s0 M = some r) : I_RnE (I_Ex d) i_c205 (35, [some (.ref 50), some (.int l1), none, some (.int l3), none, none, none, some (.int l7), some (.int l8), none, none, none], [.int s0], i_S X M) (some (.int r.1)) (i_S X r.2) := by
  unfold r_humOf_B35 at h
  refine i_rs 4 (cf' := (42, [some (.ref 50), some (.int l1), none, some (.int l3), none, none, none, some (.int l7), some (.int l8), some (.int s0), none, none], [.int l1, .ref 51], i_S X M)) rfl ?_
  obtain ⟨g1, h⟩ := i_gE h
  refine i_riald (n := 60) (cf' := (43, [some (.ref 50), some (.int l1), none, some (.int l3), none, none, none, some (.int l7), some (.int l8), some (.int s0), none, none], [.int (M.1 51 (Int32.toNatClampNeg l1))], i_S X M)) rfl rfl (by decide) g1 rfl ?_
  refine i_rs 6 (cf' := (54, [some (.ref 50), some (.int l1), none, some (.int l3), none, none, none, some (.int l7), some (.int l8), some (.int s0), some (.int (M.1 51 (Int32.toNatClampNeg l1))), none], [.int (57 : Int32), .ref 51, .int (5 : Int32), .int (40 : Int32)], i_S X M)) rfl ?_
  refine i_riald (n := 60) (cf' := (55, [some (.ref 50), some (.int l1), none, some (.int l3), none, none, none, some (.int l7), some (.int l8), some (.int s0), some (.int (M.1 51 (Int32.toNatClampNeg l1))), none], [.int (M.1 51 57), .int (5 : Int32), .int (40 : Int32)], i_S X M)) rfl rfl (by decide) (by decide) rfl ?_
  refine i_rs 21 (cf' := (84, [some (.ref 50), some (.int l1), none, some (.int l3), none, none, none, some (.int l7), some (.int l8), some (.int s0), some (.int (M.1 51 (Int32.toNatClampNeg l1))), none], [.int (56 : Int32), .ref 51, .int (((((((40 : Int32) + ((5 : Int32) * (M.1 51 57))) - ((2 : Int32) * l7)) - ((3 : Int32) * l8)) - ((6 : Int32) * s0)) - l3) - (M.1 51 (Int32.toNatClampNeg l1)))], i_S X M)) rfl ?_
  refine i_riald (n := 60) (cf' := (85, [some (.ref 50), some (.int l1), none, some (.int l3), none, none, none, some (.int l7), some (.int l8), some (.int s0), some (.int (M.1 51 (Int32.toNatClampNeg l1))), none], [.int (M.1 51 56), .int (((((((40 : Int32) + ((5 : Int32) * (M.1 51 57))) - ((2 : Int32) * l7)) - ((3 : Int32) * l8)) - ((6 : Int32) * s0)) - l3) - (M.1 51 (Int32.toNatClampNeg l1)))], i_S X M)) rfl rfl (by decide) (by decide) rfl ?_
  refine i_rs 1 (cf' := (86, [some (.ref 50), some (.int l1), none, some (.int l3), none, none, none, some (.int l7), some (.int l8), some (.int s0), some (.int (M.1 51 (Int32.toNatClampNeg l1))), none], [.int ((((((((40 : Int32) + ((5 : Int32) * (M.1 51 57))) - ((2 : Int32) * l7)) - ((3 : Int32) * l8)) - ((6 : Int32) * s0)) - l3) - (M.1 51 (Int32.toNatClampNeg l1))) - (M.1 51 56))], i_S X M)) rfl ?_
  obtain ⟨x2, ex2, h⟩ := i_letE h
  refine i_cfe (cf' := (86, [some (.ref 50), some (.int l1), none, some (.int l3), none, none, none, some (.int l7), some (.int l8), some (.int s0), some (.int (M.1 51 (Int32.toNatClampNeg l1))), none], [.int x2], i_S X M)) (by rw [ex2]) ?_
  refine i_rs 3 (cf' := (92, [some (.ref 50), some (.int l1), none, some (.int l3), none, none, none, some (.int l7), some (.int l8), some (.int s0), some (.int (M.1 51 (Int32.toNatClampNeg l1))), some (.int x2)], [.int (M.1 50 17)], i_S X M)) rfl ?_
  by_cases c3 : (M.1 50 17) < (0 : Int32)
  · replace h := (if_pos c3).symm.trans h
    refine i_rbT (c := (M.1 50 17) < (0 : Int32)) (t := 172) (n := 95) rfl c3 ?_
    refine i_fg (lv' := [none, none, none, none, none, none, none, none, none, none, none, some (.int x2)]) (And.intro rfl True.intro) ?_
    exact ok_r_humOf_B172 (by omega) h
  · replace h := (if_neg c3).symm.trans h
    refine i_rbF (c := (M.1 50 17) < (0 : Int32)) (t := 172) (n := 95) rfl c3 ?_
    refine i_rs 4 (cf' := (102, [some (.ref 50), some (.int l1), none, some (.int l3), none, none, none, some (.int l7), some (.int l8), some (.int s0), some (.int (M.1 51 (Int32.toNatClampNeg l1))), some (.int x2)], [.int l7, .int (0 : Int32), .ref 60], i_S X M)) rfl ?_
    refine i_riast (n := 7) (cf' := (103, [some (.ref 50), some (.int l1), none, some (.int l3), none, none, none, some (.int l7), some (.int l8), some (.int s0), some (.int (M.1 51 (Int32.toNatClampNeg l1))), some (.int x2)], [], i_S X (i_wI M 60 0 l7))) rfl rfl (Or.inl rfl) (by decide) rfl ?_
    refine i_rs 4 (cf' := (110, [some (.ref 50), some (.int l1), none, some (.int l3), none, none, none, some (.int l7), some (.int l8), some (.int s0), some (.int (M.1 51 (Int32.toNatClampNeg l1))), some (.int x2)], [.int l8, .int (1 : Int32), .ref 60], i_S X (i_wI M 60 0 l7))) rfl ?_
    refine i_riast (n := 7) (cf' := (111, [some (.ref 50), some (.int l1), none, some (.int l3), none, none, none, some (.int l7), some (.int l8), some (.int s0), some (.int (M.1 51 (Int32.toNatClampNeg l1))), some (.int x2)], [], i_S X (i_wI (i_wI M 60 0 l7) 60 1 l8))) rfl rfl (Or.inl rfl) (by decide) rfl ?_
    refine i_rs 4 (cf' := (118, [some (.ref 50), some (.int l1), none, some (.int l3), none, none, none, some (.int l7), some (.int l8), some (.int s0), some (.int (M.1 51 (Int32.toNatClampNeg l1))), some (.int x2)], [.int s0, .int (2 : Int32), .ref 60], i_S X (i_wI (i_wI M 60 0 l7) 60 1 l8))) rfl ?_
    refine i_riast (n := 7) (cf' := (119, [some (.ref 50), some (.int l1), none, some (.int l3), none, none, none, some (.int l7), some (.int l8), some (.int s0), some (.int (M.1 51 (Int32.toNatClampNeg l1))), some (.int x2)], [], i_S X (i_wI (i_wI (i_wI M 60 0 l7) 60 1 l8) 60 2 s0))) rfl rfl (Or.inl rfl) (by decide) rfl ?_
    refine i_rs 4 (cf' := (125, [some (.ref 50), some (.int l1), none, some (.int l3), none, none, none, some (.int l7), some (.int l8), some (.int s0), some (.int (M.1 51 (Int32.toNatClampNeg l1))), some (.int x2)], [.int l3, .int (3 : Int32), .ref 60], i_S X (i_wI (i_wI (i_wI M 60 0 l7) 60 1 l8) 60 2 s0))) rfl ?_
    refine i_riast (n := 7) (cf' := (126, [some (.ref 50), some (.int l1), none, some (.int l3), none, none, none, some (.int l7), some (.int l8), some (.int s0), some (.int (M.1 51 (Int32.toNatClampNeg l1))), some (.int x2)], [], i_S X (i_wI (i_wI (i_wI (i_wI M 60 0 l7) 60 1 l8) 60 2 s0) 60 3 l3))) rfl rfl (Or.inl rfl) (by decide) rfl ?_
    refine i_rs 4 (cf' := (133, [some (.ref 50), some (.int l1), none, some (.int l3), none, none, none, some (.int l7), some (.int l8), some (.int s0), some (.int (M.1 51 (Int32.toNatClampNeg l1))), some (.int x2)], [.int (M.1 51 (Int32.toNatClampNeg l1)), .int (4 : Int32), .ref 60], i_S X (i_wI (i_wI (i_wI (i_wI M 60 0 l7) 60 1 l8) 60 2 s0) 60 3 l3))) rfl ?_
    refine i_riast (n := 7) (cf' := (134, [some (.ref 50), some (.int l1), none, some (.int l3), none, none, none, some (.int l7), some (.int l8), some (.int s0), some (.int (M.1 51 (Int32.toNatClampNeg l1))), some (.int x2)], [], i_S X (i_wI (i_wI (i_wI (i_wI (i_wI M 60 0 l7) 60 1 l8) 60 2 s0) 60 3 l3) 60 4 (M.1 51 (Int32.toNatClampNeg l1))))) rfl rfl (Or.inl rfl) (by decide) rfl ?_
    refine i_rs 6 (cf' := (145, [some (.ref 50), some (.int l1), none, some (.int l3), none, none, none, some (.int l7), some (.int l8), some (.int s0), some (.int (M.1 51 (Int32.toNatClampNeg l1))), some (.int x2)], [.int (56 : Int32), .ref 51, .int (5 : Int32), .ref 60], i_S X (i_wI (i_wI (i_wI (i_wI (i_wI M 60 0 l7) 60 1 l8) 60 2 s0) 60 3 l3) 60 4 (M.1 51 (Int32.toNatClampNeg l1))))) rfl ?_
    refine i_riald (n := 60) (cf' := (146, [some (.ref 50), some (.int l1), none, some (.int l3), none, none, none, some (.int l7), some (.int l8), some (.int s0), some (.int (M.1 51 (Int32.toNatClampNeg l1))), some (.int x2)], [.int (M.1 51 56), .int (5 : Int32), .ref 60], i_S X (i_wI (i_wI (i_wI (i_wI (i_wI M 60 0 l7) 60 1 l8) 60 2 s0) 60 3 l3) 60 4 (M.1 51 (Int32.toNatClampNeg l1))))) rfl rfl (by decide) (by decide) rfl ?_
    refine i_riast (n := 7) (cf' := (147, [some (.ref 50), some (.int l1), none, some (.int l3), none, none, none, some (.int l7), some (.int l8), some (.int s0), some (.int (M.1 51 (Int32.toNatClampNeg l1))), some (.int x2)], [], i_S X (i_wI (i_wI (i_wI (i_wI (i_wI (i_wI M 60 0 l7) 60 1 l8) 60 2 s0) 60 3 l3) 60 4 (M.1 51 (Int32.toNatClampNeg l1))) 60 5 (M.1 51 56)))) rfl rfl (Or.inl rfl) (by decide) rfl ?_
    refine i_rs 6 (cf' := (159, [some (.ref 50), some (.int l1), none, some (.int l3), none, none, none, some (.int l7), some (.int l8), some (.int s0), some (.int (M.1 51 (Int32.toNatClampNeg l1))), some (.int x2)], [.int (57 : Int32), .ref 51, .int (6 : Int32), .ref 60], i_S X (i_wI (i_wI (i_wI (i_wI (i_wI (i_wI M 60 0 l7) 60 1 l8) 60 2 s0) 60 3 l3) 60 4 (M.1 51 (Int32.toNatClampNeg l1))) 60 5 (M.1 51 56)))) rfl ?_
    refine i_riald (n := 60) (cf' := (160, [some (.ref 50), some (.int l1), none, some (.int l3), none, none, none, some (.int l7), some (.int l8), some (.int s0), some (.int (M.1 51 (Int32.toNatClampNeg l1))), some (.int x2)], [.int (M.1 51 57), .int (6 : Int32), .ref 60], i_S X (i_wI (i_wI (i_wI (i_wI (i_wI (i_wI M 60 0 l7) 60 1 l8) 60 2 s0) 60 3 l3) 60 4 (M.1 51 (Int32.toNatClampNeg l1))) 60 5 (M.1 51 56)))) rfl rfl (by decide) (by decide) rfl ?_
    refine i_riast (n := 7) (cf' := (161, [some (.ref 50), some (.int l1), none, some (.int l3), none, none, none, some (.int l7), some (.int l8), some (.int s0), some (.int (M.1 51 (Int32.toNatClampNeg l1))), some (.int x2)], [], i_S X (i_wI (i_wI (i_wI (i_wI (i_wI (i_wI (i_wI M 60 0 l7) 60 1 l8) 60 2 s0) 60 3 l3) 60 4 (M.1 51 (Int32.toNatClampNeg l1))) 60 5 (M.1 51 56)) 60 6 (M.1 51 57)))) rfl rfl (Or.inl rfl) (by decide) rfl ?_
    refine i_rs 4 (cf' := (167, [some (.ref 50), some (.int l1), none, some (.int l3), none, none, none, some (.int l7), some (.int l8), some (.int s0), some (.int (M.1 51 (Int32.toNatClampNeg l1))), some (.int x2)], [.int (M.1 50 17), .int (0 : Int32), .ref 50], i_S X (i_wI (i_wI (i_wI (i_wI (i_wI (i_wI (i_wI M 60 0 l7) 60 1 l8) 60 2 s0) 60 3 l3) 60 4 (M.1 51 (Int32.toNatClampNeg l1))) 60 5 (M.1 51 56)) 60 6 (M.1 51 57)))) rfl ?_
    obtain ⟨q4, hq4, h⟩ := i_bdE h
    refine i_rcall (k := 191) (as := [.ref 50, .int (0 : Int32), .int (M.1 50 17)]) (cf1 := (170, [some (.ref 50), some (.int l1), none, some (.int l3), none, none, none, some (.int l7), some (.int l8), some (.int s0), some (.int (M.1 51 (Int32.toNatClampNeg l1))), some (.int x2)], [], i_S X (i_wI (i_wI (i_wI (i_wI (i_wI (i_wI (i_wI M 60 0 l7) 60 1 l8) 60 2 s0) 60 3 l3) 60 4 (M.1 51 (Int32.toNatClampNeg l1))) 60 5 (M.1 51 56)) 60 6 (M.1 51 57)))) (cf' := (170, [some (.ref 50), some (.int l1), none, some (.int l3), none, none, none, some (.int l7), some (.int l8), some (.int s0), some (.int (M.1 51 (Int32.toNatClampNeg l1))), some (.int x2)], [.int q4.1], i_S X q4.2)) rfl (ok_r_workOut (by omega) hq4) rfl ?_
    refine i_rs 1 (cf' := (172, [some (.ref 50), some (.int l1), none, some (.int l3), none, none, none, some (.int l7), some (.int l8), some (.int s0), some (.int (M.1 51 (Int32.toNatClampNeg l1))), some (.int q4.1)], [], i_S X q4.2)) rfl ?_
    refine i_fg (lv' := [none, none, none, none, none, none, none, none, none, none, none, some (.int q4.1)]) (And.intro rfl True.intro) ?_
    exact ok_r_humOf_B172 (by omega) h
def r_humOf (l1 : Int32) (l2 : Int32) (l3 : Int32) (l4 : Int32) (l5 : Int32) (l6 : Int32) (M : I_M) : Option (Int32 × I_M) :=
  Option.bind (r_farOf l5 l1 M) (fun q7 => Option.bind (r_farOf l1 l6 q7.2) (fun q8 => (if l2 < l4 then
      r_humOf_B35 l1 l3 q7.1 q8.1 (l4 - l2) q8.2
    else
      r_humOf_B35 l1 l3 q7.1 q8.1 (l2 - l4) q8.2)))
theorem ok_r_humOf {X : Nat × (Nat → Int32)} {d : Nat} {l1 : Int32} {l2 : Int32} {l3 : Int32} {l4 : Int32} {l5 : Int32} {l6 : Int32} {M : I_M} {r : (Int32 × I_M)} (hd : 67 ≤ d) (h : r_humOf l1 l2 l3 l4 l5 l6 M = some r) : I_Ex d 205 [.ref 50, .int l1, .int l2, .int l3, .int l4, .int l5, .int l6] (i_S X M) (some (.int r.1)) (i_S X r.2) := by
  obtain ⟨d, rfl⟩ : ∃ d1, d = d1 + 1 := ⟨d - 1, by omega⟩
  unfold r_humOf at h
  refine i_ex (e := i_r205) (lv := [some (.ref 50), some (.int l1), some (.int l2), some (.int l3), some (.int l4), some (.int l5), some (.int l6), none, none, none, none, none]) rfl (Nat.le_of_ble_eq_true rfl) rfl ?_
  show I_RnE (I_Ex d) i_c205 (0, [some (.ref 50), some (.int l1), some (.int l2), some (.int l3), some (.int l4), some (.int l5), some (.int l6), none, none, none, none, none], [], i_S X M) _ _
  refine i_rs 3 (cf' := (4, [some (.ref 50), some (.int l1), some (.int l2), some (.int l3), some (.int l4), some (.int l5), some (.int l6), none, none, none, none, none], [.int l1, .int l5, .ref 50], i_S X M)) rfl ?_
  obtain ⟨q7, hq7, h⟩ := i_bdE h
  refine i_rcall (k := 206) (as := [.ref 50, .int l5, .int l1]) (cf1 := (7, [some (.ref 50), some (.int l1), some (.int l2), some (.int l3), some (.int l4), some (.int l5), some (.int l6), none, none, none, none, none], [], i_S X M)) (cf' := (7, [some (.ref 50), some (.int l1), some (.int l2), some (.int l3), some (.int l4), some (.int l5), some (.int l6), none, none, none, none, none], [.int q7.1], i_S X q7.2)) rfl (ok_r_farOf (by omega) hq7) rfl ?_
  refine i_rs 4 (cf' := (13, [some (.ref 50), some (.int l1), some (.int l2), some (.int l3), some (.int l4), some (.int l5), some (.int l6), some (.int q7.1), none, none, none, none], [.int l6, .int l1, .ref 50], i_S X q7.2)) rfl ?_
  obtain ⟨q8, hq8, h⟩ := i_bdE h
  refine i_rcall (k := 206) (as := [.ref 50, .int l1, .int l6]) (cf1 := (16, [some (.ref 50), some (.int l1), some (.int l2), some (.int l3), some (.int l4), some (.int l5), some (.int l6), some (.int q7.1), none, none, none, none], [], i_S X q7.2)) (cf' := (16, [some (.ref 50), some (.int l1), some (.int l2), some (.int l3), some (.int l4), some (.int l5), some (.int l6), some (.int q7.1), none, none, none, none], [.int q8.1], i_S X q8.2)) rfl (ok_r_farOf (by omega) hq8) rfl ?_
  refine i_rs 3 (cf' := (21, [some (.ref 50), some (.int l1), some (.int l2), some (.int l3), some (.int l4), some (.int l5), some (.int l6), some (.int q7.1), some (.int q8.1), none, none, none], [.int l2, .int l4], i_S X q8.2)) rfl ?_
  by_cases c9 : l2 < l4
  · replace h := (if_pos c9).symm.trans h
    refine i_rbT (c := l2 < l4) (t := 24) (n := 31) rfl c9 ?_
    refine i_rs 4 (cf' := (35, [some (.ref 50), some (.int l1), some (.int l2), some (.int l3), some (.int l4), some (.int l5), some (.int l6), some (.int q7.1), some (.int q8.1), none, none, none], [.int (l4 - l2)], i_S X q8.2)) rfl ?_
    refine i_fg (lv' := [some (.ref 50), some (.int l1), none, some (.int l3), none, none, none, some (.int q7.1), some (.int q8.1), none, none, none]) (And.intro rfl (And.intro rfl (And.intro rfl (And.intro rfl (And.intro rfl True.intro))))) ?_
    exact ok_r_humOf_B35 (by omega) h
  · replace h := (if_neg c9).symm.trans h
    refine i_rbF (c := l2 < l4) (t := 24) (n := 31) rfl c9 ?_
    refine i_rs 3 (cf' := (35, [some (.ref 50), some (.int l1), some (.int l2), some (.int l3), some (.int l4), some (.int l5), some (.int l6), some (.int q7.1), some (.int q8.1), none, none, none], [.int (l2 - l4)], i_S X q8.2)) rfl ?_
    refine i_fg (lv' := [some (.ref 50), some (.int l1), none, some (.int l3), none, none, none, some (.int q7.1), some (.int q8.1), none, none, none]) (And.intro rfl (And.intro rfl (And.intro rfl (And.intro rfl (And.intro rfl True.intro))))) ?_
    exact ok_r_humOf_B35 (by omega) h
def r_humOfBell (l1 : Int32) (l2 : Int32) (l3 : Int32) (l4 : Int32) (M : I_M) : Option (Int32 × I_M) :=
  i_g l1 6 (i_g ((50 : Int32) + l1) 60 (Option.bind (r_humOf (M.1 55 (Int32.toNatClampNeg l1)) (M.1 56 (Int32.toNatClampNeg l1)) (M.1 51 (Int32.toNatClampNeg ((50 : Int32) + l1))) l2 l3 l4 M) (fun q3 => (if (q3.2.1 57 (Int32.toNatClampNeg l1)) = (1 : Int32) then
      some ((q3.1 / (2 : Int32)), q3.2)
    else
      some (q3.1, q3.2)))))
theorem ok_r_humOfBell {X : Nat × (Nat → Int32)} {d : Nat} {l1 : Int32} {l2 : Int32} {l3 : Int32} {l4 : Int32} {M : I_M} {r : (Int32 × I_M)} (hd : 68 ≤ d) (h : r_humOfBell l1 l2 l3 l4 M = some r) : I_Ex d 204 [.ref 50, .int l1, .int l2, .int l3, .int l4] (i_S X M) (some (.int r.1)) (i_S X r.2) := by
  obtain ⟨d, rfl⟩ : ∃ d1, d = d1 + 1 := ⟨d - 1, by omega⟩
  unfold r_humOfBell at h
  refine i_ex (e := i_r204) (lv := [some (.ref 50), some (.int l1), some (.int l2), some (.int l3), some (.int l4), none]) rfl (Nat.le_of_ble_eq_true rfl) rfl ?_
  show I_RnE (I_Ex d) i_c204 (0, [some (.ref 50), some (.int l1), some (.int l2), some (.int l3), some (.int l4), none], [], i_S X M) _ _
  refine i_rs 4 (cf' := (6, [some (.ref 50), some (.int l1), some (.int l2), some (.int l3), some (.int l4), none], [.int l1, .ref 55, .ref 50], i_S X M)) rfl ?_
  obtain ⟨g1, h⟩ := i_gE h
  refine i_riald (n := 6) (cf' := (7, [some (.ref 50), some (.int l1), some (.int l2), some (.int l3), some (.int l4), none], [.int (M.1 55 (Int32.toNatClampNeg l1)), .ref 50], i_S X M)) rfl rfl (by decide) g1 rfl ?_
  refine i_rs 3 (cf' := (12, [some (.ref 50), some (.int l1), some (.int l2), some (.int l3), some (.int l4), none], [.int l1, .ref 56, .int (M.1 55 (Int32.toNatClampNeg l1)), .ref 50], i_S X M)) rfl ?_
  refine i_riald (n := 6) (cf' := (13, [some (.ref 50), some (.int l1), some (.int l2), some (.int l3), some (.int l4), none], [.int (M.1 56 (Int32.toNatClampNeg l1)), .int (M.1 55 (Int32.toNatClampNeg l1)), .ref 50], i_S X M)) rfl rfl (by decide) g1 rfl ?_
  refine i_rs 5 (cf' := (21, [some (.ref 50), some (.int l1), some (.int l2), some (.int l3), some (.int l4), none], [.int ((50 : Int32) + l1), .ref 51, .int (M.1 56 (Int32.toNatClampNeg l1)), .int (M.1 55 (Int32.toNatClampNeg l1)), .ref 50], i_S X M)) rfl ?_
  obtain ⟨g2, h⟩ := i_gE h
  refine i_riald (n := 60) (cf' := (22, [some (.ref 50), some (.int l1), some (.int l2), some (.int l3), some (.int l4), none], [.int (M.1 51 (Int32.toNatClampNeg ((50 : Int32) + l1))), .int (M.1 56 (Int32.toNatClampNeg l1)), .int (M.1 55 (Int32.toNatClampNeg l1)), .ref 50], i_S X M)) rfl rfl (by decide) g2 rfl ?_
  refine i_rs 3 (cf' := (26, [some (.ref 50), some (.int l1), some (.int l2), some (.int l3), some (.int l4), none], [.int l4, .int l3, .int l2, .int (M.1 51 (Int32.toNatClampNeg ((50 : Int32) + l1))), .int (M.1 56 (Int32.toNatClampNeg l1)), .int (M.1 55 (Int32.toNatClampNeg l1)), .ref 50], i_S X M)) rfl ?_
  obtain ⟨q3, hq3, h⟩ := i_bdE h
  refine i_rcall (k := 205) (as := [.ref 50, .int (M.1 55 (Int32.toNatClampNeg l1)), .int (M.1 56 (Int32.toNatClampNeg l1)), .int (M.1 51 (Int32.toNatClampNeg ((50 : Int32) + l1))), .int l2, .int l3, .int l4]) (cf1 := (29, [some (.ref 50), some (.int l1), some (.int l2), some (.int l3), some (.int l4), none], [], i_S X M)) (cf' := (29, [some (.ref 50), some (.int l1), some (.int l2), some (.int l3), some (.int l4), none], [.int q3.1], i_S X q3.2)) rfl (ok_r_humOf (by omega) hq3) rfl ?_
  refine i_rs 4 (cf' := (36, [some (.ref 50), some (.int l1), some (.int l2), some (.int l3), some (.int l4), some (.int q3.1)], [.int l1, .ref 57], i_S X q3.2)) rfl ?_
  refine i_riald (n := 6) (cf' := (37, [some (.ref 50), some (.int l1), some (.int l2), some (.int l3), some (.int l4), some (.int q3.1)], [.int (q3.2.1 57 (Int32.toNatClampNeg l1))], i_S X q3.2)) rfl rfl (by decide) g1 rfl ?_
  refine i_rs 1 (cf' := (38, [some (.ref 50), some (.int l1), some (.int l2), some (.int l3), some (.int l4), some (.int q3.1)], [.int (1 : Int32), .int (q3.2.1 57 (Int32.toNatClampNeg l1))], i_S X q3.2)) rfl ?_
  by_cases c4 : (q3.2.1 57 (Int32.toNatClampNeg l1)) = (1 : Int32)
  · replace h := (if_pos c4).symm.trans h
    refine i_rbT (c := (q3.2.1 57 (Int32.toNatClampNeg l1)) = (1 : Int32)) (t := 41) (n := 48) rfl c4 ?_
    refine i_rs 2 (cf' := (44, [some (.ref 50), some (.int l1), some (.int l2), some (.int l3), some (.int l4), some (.int q3.1)], [.int (2 : Int32), .int q3.1], i_S X q3.2)) rfl ?_
    refine i_rdiv (cf' := (45, [some (.ref 50), some (.int l1), some (.int l2), some (.int l3), some (.int l4), some (.int q3.1)], [.int (q3.1 / (2 : Int32))], i_S X q3.2)) rfl (by decide) rfl ?_
    refine i_rs 1 (cf' := (50, [some (.ref 50), some (.int l1), some (.int l2), some (.int l3), some (.int l4), some (.int q3.1)], [.int (q3.1 / (2 : Int32))], i_S X q3.2)) rfl ?_
    obtain rfl := Option.some.inj h
    exact i_rret rfl rfl
  · replace h := (if_neg c4).symm.trans h
    refine i_rbF (c := (q3.2.1 57 (Int32.toNatClampNeg l1)) = (1 : Int32)) (t := 41) (n := 48) rfl c4 ?_
    refine i_rs 1 (cf' := (50, [some (.ref 50), some (.int l1), some (.int l2), some (.int l3), some (.int l4), some (.int q3.1)], [.int q3.1], i_S X q3.2)) rfl ?_
    obtain rfl := Option.some.inj h
    exact i_rret rfl rfl
def r_hum (l1 : Int32) (l2 : Int32) (l3 : Int32) (M : I_M) : Option (Int32 × I_M) :=
  Option.bind (r_isBell l1 M) (fun q1 => (if q1.1 = (0 : Int32) then
      some ((-1 : Int32), q1.2)
    else
      Option.bind (r_isNc l2 q1.2) (fun q3 => (if q3.1 = (0 : Int32) then
        some ((-1 : Int32), q3.2)
      else
        Option.bind (r_isCell l3 q3.2) (fun q5 => (if q5.1 = (0 : Int32) then
          some ((-1 : Int32), q5.2)
        else
          Option.bind (r_humOfBell l1 (l2 / (100 : Int32)) (i_rem l2 (100 : Int32)) l3 q5.2) (fun q7 => some (q7.1, q7.2))))))))
theorem ok_r_hum {X : Nat × (Nat → Int32)} {d : Nat} {l1 : Int32} {l2 : Int32} {l3 : Int32} {M : I_M} {r : (Int32 × I_M)} (hd : 69 ≤ d) (h : r_hum l1 l2 l3 M = some r) : I_Ex d 202 [.ref 50, .int l1, .int l2, .int l3] (i_S X M) (some (.int r.1)) (i_S X r.2) := by
  obtain ⟨d, rfl⟩ : ∃ d1, d = d1 + 1 := ⟨d - 1, by omega⟩
  unfold r_hum at h
  refine i_ex (e := i_r202) (lv := [some (.ref 50), some (.int l1), some (.int l2), some (.int l3)]) rfl (Nat.le_of_ble_eq_true rfl) rfl ?_
  show I_RnE (I_Ex d) i_c202 (0, [some (.ref 50), some (.int l1), some (.int l2), some (.int l3)], [], i_S X M) _ _
  refine i_rs 2 (cf' := (2, [some (.ref 50), some (.int l1), some (.int l2), some (.int l3)], [.int l1, .ref 50], i_S X M)) rfl ?_
  obtain ⟨q1, hq1, h⟩ := i_bdE h
  refine i_rcall (k := 185) (as := [.ref 50, .int l1]) (cf1 := (5, [some (.ref 50), some (.int l1), some (.int l2), some (.int l3)], [], i_S X M)) (cf' := (5, [some (.ref 50), some (.int l1), some (.int l2), some (.int l3)], [.int q1.1], i_S X q1.2)) rfl (ok_r_isBell (by omega) hq1) rfl ?_
  by_cases c2 : q1.1 = (0 : Int32)
  · replace h := (if_pos c2).symm.trans h
    refine i_rbT (c := q1.1 = (0 : Int32)) (t := 41) (n := 8) rfl c2 ?_
    refine i_rs 1 (cf' := (42, [some (.ref 50), some (.int l1), some (.int l2), some (.int l3)], [.int (-1 : Int32)], i_S X q1.2)) rfl ?_
    obtain rfl := Option.some.inj h
    exact i_rret rfl rfl
  · replace h := (if_neg c2).symm.trans h
    refine i_rbF (c := q1.1 = (0 : Int32)) (t := 41) (n := 8) rfl c2 ?_
    refine i_rs 2 (cf' := (10, [some (.ref 50), some (.int l1), some (.int l2), some (.int l3)], [.int l2, .ref 50], i_S X q1.2)) rfl ?_
    obtain ⟨q3, hq3, h⟩ := i_bdE h
    refine i_rcall (k := 203) (as := [.ref 50, .int l2]) (cf1 := (13, [some (.ref 50), some (.int l1), some (.int l2), some (.int l3)], [], i_S X q1.2)) (cf' := (13, [some (.ref 50), some (.int l1), some (.int l2), some (.int l3)], [.int q3.1], i_S X q3.2)) rfl (ok_r_isNc (by omega) hq3) rfl ?_
    by_cases c4 : q3.1 = (0 : Int32)
    · replace h := (if_pos c4).symm.trans h
      refine i_rbT (c := q3.1 = (0 : Int32)) (t := 41) (n := 16) rfl c4 ?_
      refine i_rs 1 (cf' := (42, [some (.ref 50), some (.int l1), some (.int l2), some (.int l3)], [.int (-1 : Int32)], i_S X q3.2)) rfl ?_
      obtain rfl := Option.some.inj h
      exact i_rret rfl rfl
    · replace h := (if_neg c4).symm.trans h
      refine i_rbF (c := q3.1 = (0 : Int32)) (t := 41) (n := 16) rfl c4 ?_
      refine i_rs 2 (cf' := (18, [some (.ref 50), some (.int l1), some (.int l2), some (.int l3)], [.int l3, .ref 50], i_S X q3.2)) rfl ?_
      obtain ⟨q5, hq5, h⟩ := i_bdE h
      refine i_rcall (k := 183) (as := [.ref 50, .int l3]) (cf1 := (21, [some (.ref 50), some (.int l1), some (.int l2), some (.int l3)], [], i_S X q3.2)) (cf' := (21, [some (.ref 50), some (.int l1), some (.int l2), some (.int l3)], [.int q5.1], i_S X q5.2)) rfl (ok_r_isCell (by omega) hq5) rfl ?_
      by_cases c6 : q5.1 = (0 : Int32)
      · replace h := (if_pos c6).symm.trans h
        refine i_rbT (c := q5.1 = (0 : Int32)) (t := 41) (n := 24) rfl c6 ?_
        refine i_rs 1 (cf' := (42, [some (.ref 50), some (.int l1), some (.int l2), some (.int l3)], [.int (-1 : Int32)], i_S X q5.2)) rfl ?_
        obtain rfl := Option.some.inj h
        exact i_rret rfl rfl
      · replace h := (if_neg c6).symm.trans h
        refine i_rbF (c := q5.1 = (0 : Int32)) (t := 41) (n := 24) rfl c6 ?_
        refine i_rs 4 (cf' := (29, [some (.ref 50), some (.int l1), some (.int l2), some (.int l3)], [.int (100 : Int32), .int l2, .int l1, .ref 50], i_S X q5.2)) rfl ?_
        refine i_rdiv (cf' := (30, [some (.ref 50), some (.int l1), some (.int l2), some (.int l3)], [.int (l2 / (100 : Int32)), .int l1, .ref 50], i_S X q5.2)) rfl (by decide) rfl ?_
        refine i_rs 2 (cf' := (33, [some (.ref 50), some (.int l1), some (.int l2), some (.int l3)], [.int (100 : Int32), .int l2, .int (l2 / (100 : Int32)), .int l1, .ref 50], i_S X q5.2)) rfl ?_
        refine i_rrem (cf' := (34, [some (.ref 50), some (.int l1), some (.int l2), some (.int l3)], [.int (i_rem l2 (100 : Int32)), .int (l2 / (100 : Int32)), .int l1, .ref 50], i_S X q5.2)) rfl (by decide) rfl ?_
        refine i_rs 1 (cf' := (35, [some (.ref 50), some (.int l1), some (.int l2), some (.int l3)], [.int l3, .int (i_rem l2 (100 : Int32)), .int (l2 / (100 : Int32)), .int l1, .ref 50], i_S X q5.2)) rfl ?_
        obtain ⟨q7, hq7, h⟩ := i_bdE h
        refine i_rcall (k := 204) (as := [.ref 50, .int l1, .int (l2 / (100 : Int32)), .int (i_rem l2 (100 : Int32)), .int l3]) (cf1 := (38, [some (.ref 50), some (.int l1), some (.int l2), some (.int l3)], [], i_S X q5.2)) (cf' := (38, [some (.ref 50), some (.int l1), some (.int l2), some (.int l3)], [.int q7.1], i_S X q7.2)) rfl (ok_r_humOfBell (by omega) hq7) rfl ?_
        refine i_rs 1 (cf' := (42, [some (.ref 50), some (.int l1), some (.int l2), some (.int l3)], [.int q7.1], i_S X q7.2)) rfl ?_
        obtain rfl := Option.some.inj h
        exact i_rret rfl rfl
def b_Law_heardOf (l1 : Int32) (M : I_M) : Option (Int32 × I_M) :=
  (if (i_min l1 (99 : Int32)) < (M.1 1 8) then
      some ((0 : Int32), M)
    else
      some ((i_min l1 (99 : Int32)), M))
theorem ok_b_Law_heardOf {X : Nat × (Nat → Int32)} {d : Nat} {l1 : Int32} {M : I_M} {r : (Int32 × I_M)} (hd : 1 ≤ d) (h : b_Law_heardOf l1 M = some r) : I_Ex d 76 [.ref 9, .int l1] (i_S X M) (some (.int r.1)) (i_S X r.2) := by
  obtain ⟨d, rfl⟩ : ∃ d1, d = d1 + 1 := ⟨d - 1, by omega⟩
  unfold b_Law_heardOf at h
  refine i_ex (e := i_r76) (lv := [some (.ref 9), some (.int l1), none]) rfl (Nat.le_of_ble_eq_true rfl) rfl ?_
  show I_RnE (I_Ex d) i_c76 (0, [some (.ref 9), some (.int l1), none], [], i_S X M) _ _
  refine i_rs 8 (cf' := (15, [some (.ref 9), some (.int l1), some (.int (i_min l1 (99 : Int32)))], [.int (M.1 1 8), .int (i_min l1 (99 : Int32))], i_S X M)) rfl ?_
  by_cases c1 : (i_min l1 (99 : Int32)) < (M.1 1 8)
  · replace h := (if_pos c1).symm.trans h
    refine i_rbT (c := (i_min l1 (99 : Int32)) < (M.1 1 8)) (t := 22) (n := 18) rfl c1 ?_
    refine i_rs 1 (cf' := (23, [some (.ref 9), some (.int l1), some (.int (i_min l1 (99 : Int32)))], [.int (0 : Int32)], i_S X M)) rfl ?_
    obtain rfl := Option.some.inj h
    exact i_rret rfl rfl
  · replace h := (if_neg c1).symm.trans h
    refine i_rbF (c := (i_min l1 (99 : Int32)) < (M.1 1 8)) (t := 22) (n := 18) rfl c1 ?_
    refine i_rs 2 (cf' := (23, [some (.ref 9), some (.int l1), some (.int (i_min l1 (99 : Int32)))], [.int (i_min l1 (99 : Int32))], i_S X M)) rfl ?_
    obtain rfl := Option.some.inj h
    exact i_rret rfl rfl
def b_Buried_heardOfAll_L5 (l1 : Int32) (l2 : Int32) (k40 : Int32 → I_M → Option (Int32 × I_M)) : Nat → Int32 → Int32 → I_M → Option (Int32 × I_M)
  | 0, _, _, _ => none
  | n + 1, l3, l4, M =>
    (if l4 < (M.1 13 6) then
        Option.bind (b_Buried_isFound l4 M) (fun q2 => (if q2.1 = (0 : Int32) then
          Option.bind (b_Buried_humOf l4 l1 l2 q2.2) (fun q4 => (b_Buried_heardOfAll_L5 l1 l2 k40 n) (l3 + q4.1) (l4 + (1 : Int32)) q4.2)
        else
          (b_Buried_heardOfAll_L5 l1 l2 k40 n) l3 (l4 + (1 : Int32)) q2.2))
      else
        k40 l3 M)
theorem ok_b_Buried_heardOfAll_L5 {X : Nat × (Nat → Int32)} {d : Nat} {l1 : Int32} {l2 : Int32} {k40 : Int32 → I_M → Option (Int32 × I_M)} (hd : 6 ≤ d + 1) (hk40 : ∀ (l3 : Int32) (M : I_M) (r : (Int32 × I_M)), k40 l3 M = some r → I_RnE (I_Ex d) i_c75 (40, [some (.ref 13), none, none, some (.int l3), none], [], i_S X M) (some (.int r.1)) (i_S X r.2)) : ∀ (n : Nat) (l3 : Int32) (l4 : Int32) (M : I_M) (r : (Int32 × I_M)), b_Buried_heardOfAll_L5 l1 l2 k40 n l3 l4 M = some r → I_RnE (I_Ex d) i_c75 (5, [some (.ref 13), some (.int l1), some (.int l2), some (.int l3), some (.int l4)], [], i_S X M) (some (.int r.1)) (i_S X r.2) := by
  intro n
  induction n with
  | zero => intro _ _ M r h; cases h
  | succ n hself =>
    intro l3 l4 M r h
    rw [b_Buried_heardOfAll_L5] at h
    refine i_rs 3 (cf' := (11, [some (.ref 13), some (.int l1), some (.int l2), some (.int l3), some (.int l4)], [.int (M.1 13 6), .int l4], i_S X M)) rfl ?_
    by_cases c1 : l4 < (M.1 13 6)
    · replace h := (if_pos c1).symm.trans h
      refine i_rbT (c := l4 < (M.1 13 6)) (t := 14) (n := 40) rfl c1 ?_
      refine i_rs 2 (cf' := (17, [some (.ref 13), some (.int l1), some (.int l2), some (.int l3), some (.int l4)], [.int l4, .ref 13], i_S X M)) rfl ?_
      obtain ⟨q2, hq2, h⟩ := i_bdE h
      refine i_rcall (k := 38) (as := [.ref 13, .int l4]) (cf1 := (20, [some (.ref 13), some (.int l1), some (.int l2), some (.int l3), some (.int l4)], [], i_S X M)) (cf' := (20, [some (.ref 13), some (.int l1), some (.int l2), some (.int l3), some (.int l4)], [.int q2.1], i_S X q2.2)) rfl (ok_b_Buried_isFound (by omega) hq2) rfl ?_
      by_cases c3 : q2.1 = (0 : Int32)
      · replace h := (if_pos c3).symm.trans h
        refine i_rbT (c := q2.1 = (0 : Int32)) (t := 23) (n := 34) rfl c3 ?_
        refine i_rs 5 (cf' := (29, [some (.ref 13), some (.int l1), some (.int l2), some (.int l3), some (.int l4)], [.int l2, .int l1, .int l4, .ref 13, .int l3], i_S X q2.2)) rfl ?_
        obtain ⟨q4, hq4, h⟩ := i_bdE h
        refine i_rcall (k := 66) (as := [.ref 13, .int l4, .int l1, .int l2]) (cf1 := (32, [some (.ref 13), some (.int l1), some (.int l2), some (.int l3), some (.int l4)], [.int l3], i_S X q2.2)) (cf' := (32, [some (.ref 13), some (.int l1), some (.int l2), some (.int l3), some (.int l4)], [.int q4.1, .int l3], i_S X q4.2)) rfl (ok_b_Buried_humOf (by omega) hq4) rfl ?_
        refine i_rs 4 (cf' := (5, [some (.ref 13), some (.int l1), some (.int l2), some (.int (l3 + q4.1)), some (.int (l4 + (1 : Int32)))], [], i_S X q4.2)) rfl ?_
        refine i_fg (lv' := [some (.ref 13), some (.int l1), some (.int l2), some (.int (l3 + q4.1)), some (.int (l4 + (1 : Int32)))]) (And.intro rfl (And.intro rfl (And.intro rfl (And.intro rfl (And.intro rfl True.intro))))) ?_
        exact hself (l3 + q4.1) (l4 + (1 : Int32)) q4.2 _ h
      · replace h := (if_neg c3).symm.trans h
        refine i_rbF (c := q2.1 = (0 : Int32)) (t := 23) (n := 34) rfl c3 ?_
        refine i_rs 2 (cf' := (5, [some (.ref 13), some (.int l1), some (.int l2), some (.int l3), some (.int (l4 + (1 : Int32)))], [], i_S X q2.2)) rfl ?_
        refine i_fg (lv' := [some (.ref 13), some (.int l1), some (.int l2), some (.int l3), some (.int (l4 + (1 : Int32)))]) (And.intro rfl (And.intro rfl (And.intro rfl (And.intro rfl (And.intro rfl True.intro))))) ?_
        exact hself l3 (l4 + (1 : Int32)) q2.2 _ h
    · replace h := (if_neg c1).symm.trans h
      refine i_rbF (c := l4 < (M.1 13 6)) (t := 14) (n := 40) rfl c1 ?_
      refine i_fg (lv' := [some (.ref 13), none, none, some (.int l3), none]) (And.intro rfl (And.intro rfl True.intro)) ?_
      exact hk40 l3 M _ h
def b_Buried_heardOfAll (l1 : Int32) (l2 : Int32) (M : I_M) : Option (Int32 × I_M) :=
  b_Buried_heardOfAll_L5 l1 l2 (fun l3_5 M5 =>
        Option.bind (b_Law_heardOf l3_5 M5) (fun q6 => some (q6.1, q6.2))) i_F (0 : Int32) (0 : Int32) M
theorem ok_b_Buried_heardOfAll {X : Nat × (Nat → Int32)} {d : Nat} {l1 : Int32} {l2 : Int32} {M : I_M} {r : (Int32 × I_M)} (hd : 6 ≤ d) (h : b_Buried_heardOfAll l1 l2 M = some r) : I_Ex d 75 [.ref 13, .int l1, .int l2] (i_S X M) (some (.int r.1)) (i_S X r.2) := by
  obtain ⟨d, rfl⟩ : ∃ d1, d = d1 + 1 := ⟨d - 1, by omega⟩
  unfold b_Buried_heardOfAll at h
  refine i_ex (e := i_r75) (lv := [some (.ref 13), some (.int l1), some (.int l2), none, none]) rfl (Nat.le_of_ble_eq_true rfl) rfl ?_
  show I_RnE (I_Ex d) i_c75 (0, [some (.ref 13), some (.int l1), some (.int l2), none, none], [], i_S X M) _ _
  refine i_rs 4 (cf' := (5, [some (.ref 13), some (.int l1), some (.int l2), some (.int (0 : Int32)), some (.int (0 : Int32))], [], i_S X M)) rfl ?_
  refine i_fg (lv' := [some (.ref 13), some (.int l1), some (.int l2), some (.int (0 : Int32)), some (.int (0 : Int32))]) (And.intro rfl (And.intro rfl (And.intro rfl (And.intro rfl (And.intro rfl True.intro))))) ?_
  refine ok_b_Buried_heardOfAll_L5 (by omega) (fun l3_5 M5 r h => ?_) i_F (0 : Int32) (0 : Int32) M _ h
  refine i_rs 3 (cf' := (45, [some (.ref 13), none, none, some (.int l3_5), none], [.int l3_5, .ref 9], i_S X M5)) rfl ?_
  obtain ⟨q6, hq6, h⟩ := i_bdE h
  refine i_rcall (k := 76) (as := [.ref 9, .int l3_5]) (cf1 := (48, [some (.ref 13), none, none, some (.int l3_5), none], [], i_S X M5)) (cf' := (48, [some (.ref 13), none, none, some (.int l3_5), none], [.int q6.1], i_S X q6.2)) rfl (ok_b_Law_heardOf (by omega) hq6) rfl ?_
  obtain rfl := Option.some.inj h
  exact i_rret rfl rfl
def b_heard (l1 : Int32) (l2 : Int32) (M : I_M) : Option (Int32 × I_M) :=
  Option.bind (b_Land_isStrike l1 M) (fun q1 => (if q1.1 = (0 : Int32) then
      some ((-1 : Int32), q1.2)
    else
      Option.bind (b_Land_has l2 q1.2) (fun q3 => (if q3.1 = (0 : Int32) then
        some ((-1 : Int32), q3.2)
      else
        Option.bind (b_Buried_heardOfAll l1 l2 q3.2) (fun q5 => some (q5.1, q5.2))))))
theorem ok_b_heard {X : Nat × (Nat → Int32)} {d : Nat} {l1 : Int32} {l2 : Int32} {M : I_M} {r : (Int32 × I_M)} (hd : 7 ≤ d) (h : b_heard l1 l2 M = some r) : I_Ex d 74 [.ref 0, .int l1, .int l2] (i_S X M) (some (.int r.1)) (i_S X r.2) := by
  obtain ⟨d, rfl⟩ : ∃ d1, d = d1 + 1 := ⟨d - 1, by omega⟩
  unfold b_heard at h
  refine i_ex (e := i_r74) (lv := [some (.ref 0), some (.int l1), some (.int l2)]) rfl (Nat.le_of_ble_eq_true rfl) rfl ?_
  show I_RnE (I_Ex d) i_c74 (0, [some (.ref 0), some (.int l1), some (.int l2)], [], i_S X M) _ _
  refine i_rs 3 (cf' := (5, [some (.ref 0), some (.int l1), some (.int l2)], [.int l1, .ref 1], i_S X M)) rfl ?_
  obtain ⟨q1, hq1, h⟩ := i_bdE h
  refine i_rcall (k := 65) (as := [.ref 1, .int l1]) (cf1 := (8, [some (.ref 0), some (.int l1), some (.int l2)], [], i_S X M)) (cf' := (8, [some (.ref 0), some (.int l1), some (.int l2)], [.int q1.1], i_S X q1.2)) rfl (ok_b_Land_isStrike (by omega) hq1) rfl ?_
  by_cases c2 : q1.1 = (0 : Int32)
  · replace h := (if_pos c2).symm.trans h
    refine i_rbT (c := q1.1 = (0 : Int32)) (t := 22) (n := 11) rfl c2 ?_
    refine i_rs 1 (cf' := (23, [some (.ref 0), some (.int l1), some (.int l2)], [.int (-1 : Int32)], i_S X q1.2)) rfl ?_
    obtain rfl := Option.some.inj h
    exact i_rret rfl rfl
  · replace h := (if_neg c2).symm.trans h
    refine i_rbF (c := q1.1 = (0 : Int32)) (t := 22) (n := 11) rfl c2 ?_
    refine i_rs 3 (cf' := (16, [some (.ref 0), some (.int l1), some (.int l2)], [.int l2, .ref 1], i_S X q1.2)) rfl ?_
    obtain ⟨q3, hq3, h⟩ := i_bdE h
    refine i_rcall (k := 20) (as := [.ref 1, .int l2]) (cf1 := (19, [some (.ref 0), some (.int l1), some (.int l2)], [], i_S X q1.2)) (cf' := (19, [some (.ref 0), some (.int l1), some (.int l2)], [.int q3.1], i_S X q3.2)) rfl (ok_b_Land_has (by omega) hq3) rfl ?_
    by_cases c4 : q3.1 = (0 : Int32)
    · replace h := (if_pos c4).symm.trans h
      refine i_rbT (c := q3.1 = (0 : Int32)) (t := 22) (n := 24) rfl c4 ?_
      refine i_rs 1 (cf' := (23, [some (.ref 0), some (.int l1), some (.int l2)], [.int (-1 : Int32)], i_S X q3.2)) rfl ?_
      obtain rfl := Option.some.inj h
      exact i_rret rfl rfl
    · replace h := (if_neg c4).symm.trans h
      refine i_rbF (c := q3.1 = (0 : Int32)) (t := 22) (n := 24) rfl c4 ?_
      refine i_rs 4 (cf' := (30, [some (.ref 0), some (.int l1), some (.int l2)], [.int l2, .int l1, .ref 13], i_S X q3.2)) rfl ?_
      obtain ⟨q5, hq5, h⟩ := i_bdE h
      refine i_rcall (k := 75) (as := [.ref 13, .int l1, .int l2]) (cf1 := (33, [some (.ref 0), some (.int l1), some (.int l2)], [], i_S X q3.2)) (cf' := (33, [some (.ref 0), some (.int l1), some (.int l2)], [.int q5.1], i_S X q5.2)) rfl (ok_b_Buried_heardOfAll (by omega) hq5) rfl ?_
      obtain rfl := Option.some.inj h
      exact i_rret rfl rfl
def r_heardOf_B12 (s0 : Int32) (M : I_M) : Option (Int32 × I_M) :=
  (if s0 < (M.1 51 58) then
      some ((0 : Int32), M)
    else
      some (s0, M))
theorem ok_r_heardOf_B12 {X : Nat × (Nat → Int32)} {d : Nat} {s0 : Int32} {M : I_M} {r : (Int32 × I_M)} (hd : 1 ≤ d + 1) (h : r_heardOf_B12 s0 M = some r) : I_RnE (I_Ex d) i_c209 (12, [some (.ref 50), none, none], [.int s0], i_S X M) (some (.int r.1)) (i_S X r.2) := by
  unfold r_heardOf_B12 at h
  refine i_rs 5 (cf' := (20, [some (.ref 50), none, some (.int s0)], [.int (58 : Int32), .ref 51, .int s0], i_S X M)) rfl ?_
  refine i_riald (n := 60) (cf' := (21, [some (.ref 50), none, some (.int s0)], [.int (M.1 51 58), .int s0], i_S X M)) rfl rfl (by decide) (by decide) rfl ?_
  by_cases c1 : s0 < (M.1 51 58)
  · replace h := (if_pos c1).symm.trans h
    refine i_rbT (c := s0 < (M.1 51 58)) (t := 28) (n := 24) rfl c1 ?_
    refine i_rs 1 (cf' := (29, [some (.ref 50), none, some (.int s0)], [.int (0 : Int32)], i_S X M)) rfl ?_
    obtain rfl := Option.some.inj h
    exact i_rret rfl rfl
  · replace h := (if_neg c1).symm.trans h
    refine i_rbF (c := s0 < (M.1 51 58)) (t := 28) (n := 24) rfl c1 ?_
    refine i_rs 2 (cf' := (29, [some (.ref 50), none, some (.int s0)], [.int s0], i_S X M)) rfl ?_
    obtain rfl := Option.some.inj h
    exact i_rret rfl rfl
def r_heardOf (l1 : Int32) (M : I_M) : Option (Int32 × I_M) :=
  (if (99 : Int32) < l1 then
      r_heardOf_B12 (99 : Int32) M
    else
      r_heardOf_B12 l1 M)
theorem ok_r_heardOf {X : Nat × (Nat → Int32)} {d : Nat} {l1 : Int32} {M : I_M} {r : (Int32 × I_M)} (hd : 1 ≤ d) (h : r_heardOf l1 M = some r) : I_Ex d 209 [.ref 50, .int l1] (i_S X M) (some (.int r.1)) (i_S X r.2) := by
  obtain ⟨d, rfl⟩ : ∃ d1, d = d1 + 1 := ⟨d - 1, by omega⟩
  unfold r_heardOf at h
  refine i_ex (e := i_r209) (lv := [some (.ref 50), some (.int l1), none]) rfl (Nat.le_of_ble_eq_true rfl) rfl ?_
  show I_RnE (I_Ex d) i_c209 (0, [some (.ref 50), some (.int l1), none], [], i_S X M) _ _
  refine i_rs 2 (cf' := (3, [some (.ref 50), some (.int l1), none], [.int (99 : Int32), .int l1], i_S X M)) rfl ?_
  by_cases c2 : (99 : Int32) < l1
  · replace h := (if_pos c2).symm.trans h
    refine i_rbT (c := (99 : Int32) < l1) (t := 6) (n := 11) rfl c2 ?_
    refine i_rs 2 (cf' := (12, [some (.ref 50), some (.int l1), none], [.int (99 : Int32)], i_S X M)) rfl ?_
    refine i_fg (lv' := [some (.ref 50), none, none]) (And.intro rfl True.intro) ?_
    exact ok_r_heardOf_B12 (by omega) h
  · replace h := (if_neg c2).symm.trans h
    refine i_rbF (c := (99 : Int32) < l1) (t := 6) (n := 11) rfl c2 ?_
    refine i_rs 1 (cf' := (12, [some (.ref 50), some (.int l1), none], [.int l1], i_S X M)) rfl ?_
    refine i_fg (lv' := [some (.ref 50), none, none]) (And.intro rfl True.intro) ?_
    exact ok_r_heardOf_B12 (by omega) h
def r_heardNow_L5 (l1 : Int32) (l2 : Int32) (k54 : Int32 → I_M → Option (Int32 × I_M)) : Nat → Int32 → Int32 → I_M → Option (Int32 × I_M)
  | 0, _, _, _ => none
  | n + 1, l3, l4, M =>
    (if l4 < (M.1 50 8) then
        Option.bind (r_isIn (M.1 50 12) l4 M) (fun q2 => (if q2.1 = (0 : Int32) then
          Option.bind (r_humOfBell l4 (l1 / (100 : Int32)) (i_rem l1 (100 : Int32)) l2 q2.2) (fun q4 => (r_heardNow_L5 l1 l2 k54 n) (l3 + q4.1) (l4 + (1 : Int32)) q4.2)
        else
          (r_heardNow_L5 l1 l2 k54 n) (l3 + (0 : Int32)) (l4 + (1 : Int32)) q2.2))
      else
        k54 l3 M)
theorem ok_r_heardNow_L5 {X : Nat × (Nat → Int32)} {d : Nat} {l1 : Int32} {l2 : Int32} {k54 : Int32 → I_M → Option (Int32 × I_M)} (hd : 69 ≤ d + 1) (hk54 : ∀ (l3 : Int32) (M : I_M) (r : (Int32 × I_M)), k54 l3 M = some r → I_RnE (I_Ex d) i_c208 (54, [some (.ref 50), none, none, some (.int l3), none], [], i_S X M) (some (.int r.1)) (i_S X r.2)) : ∀ (n : Nat) (l3 : Int32) (l4 : Int32) (M : I_M) (r : (Int32 × I_M)), r_heardNow_L5 l1 l2 k54 n l3 l4 M = some r → I_RnE (I_Ex d) i_c208 (5, [some (.ref 50), some (.int l1), some (.int l2), some (.int l3), some (.int l4)], [], i_S X M) (some (.int r.1)) (i_S X r.2) := by
  intro n
  induction n with
  | zero => intro _ _ M r h; cases h
  | succ n hself =>
    intro l3 l4 M r h
    rw [r_heardNow_L5] at h
    refine i_rs 3 (cf' := (11, [some (.ref 50), some (.int l1), some (.int l2), some (.int l3), some (.int l4)], [.int (M.1 50 8), .int l4], i_S X M)) rfl ?_
    by_cases c1 : l4 < (M.1 50 8)
    · replace h := (if_pos c1).symm.trans h
      refine i_rbT (c := l4 < (M.1 50 8)) (t := 14) (n := 54) rfl c1 ?_
      refine i_rs 4 (cf' := (21, [some (.ref 50), some (.int l1), some (.int l2), some (.int l3), some (.int l4)], [.int l4, .int (M.1 50 12), .int l3], i_S X M)) rfl ?_
      obtain ⟨q2, hq2, h⟩ := i_bdE h
      refine i_rcall (k := 188) (as := [.int (M.1 50 12), .int l4]) (cf1 := (24, [some (.ref 50), some (.int l1), some (.int l2), some (.int l3), some (.int l4)], [.int l3], i_S X M)) (cf' := (24, [some (.ref 50), some (.int l1), some (.int l2), some (.int l3), some (.int l4)], [.int q2.1, .int l3], i_S X q2.2)) rfl (ok_r_isIn (by omega) hq2) rfl ?_
      by_cases c3 : q2.1 = (0 : Int32)
      · replace h := (if_pos c3).symm.trans h
        refine i_rbT (c := q2.1 = (0 : Int32)) (t := 31) (n := 27) rfl c3 ?_
        refine i_rs 4 (cf' := (37, [some (.ref 50), some (.int l1), some (.int l2), some (.int l3), some (.int l4)], [.int (100 : Int32), .int l1, .int l4, .ref 50, .int l3], i_S X q2.2)) rfl ?_
        refine i_rdiv (cf' := (38, [some (.ref 50), some (.int l1), some (.int l2), some (.int l3), some (.int l4)], [.int (l1 / (100 : Int32)), .int l4, .ref 50, .int l3], i_S X q2.2)) rfl (by decide) rfl ?_
        refine i_rs 2 (cf' := (41, [some (.ref 50), some (.int l1), some (.int l2), some (.int l3), some (.int l4)], [.int (100 : Int32), .int l1, .int (l1 / (100 : Int32)), .int l4, .ref 50, .int l3], i_S X q2.2)) rfl ?_
        refine i_rrem (cf' := (42, [some (.ref 50), some (.int l1), some (.int l2), some (.int l3), some (.int l4)], [.int (i_rem l1 (100 : Int32)), .int (l1 / (100 : Int32)), .int l4, .ref 50, .int l3], i_S X q2.2)) rfl (by decide) rfl ?_
        refine i_rs 1 (cf' := (43, [some (.ref 50), some (.int l1), some (.int l2), some (.int l3), some (.int l4)], [.int l2, .int (i_rem l1 (100 : Int32)), .int (l1 / (100 : Int32)), .int l4, .ref 50, .int l3], i_S X q2.2)) rfl ?_
        obtain ⟨q4, hq4, h⟩ := i_bdE h
        refine i_rcall (k := 204) (as := [.ref 50, .int l4, .int (l1 / (100 : Int32)), .int (i_rem l1 (100 : Int32)), .int l2]) (cf1 := (46, [some (.ref 50), some (.int l1), some (.int l2), some (.int l3), some (.int l4)], [.int l3], i_S X q2.2)) (cf' := (46, [some (.ref 50), some (.int l1), some (.int l2), some (.int l3), some (.int l4)], [.int q4.1, .int l3], i_S X q4.2)) rfl (ok_r_humOfBell (by omega) hq4) rfl ?_
        refine i_rs 4 (cf' := (5, [some (.ref 50), some (.int l1), some (.int l2), some (.int (l3 + q4.1)), some (.int (l4 + (1 : Int32)))], [], i_S X q4.2)) rfl ?_
        refine i_fg (lv' := [some (.ref 50), some (.int l1), some (.int l2), some (.int (l3 + q4.1)), some (.int (l4 + (1 : Int32)))]) (And.intro rfl (And.intro rfl (And.intro rfl (And.intro rfl (And.intro rfl True.intro))))) ?_
        exact hself (l3 + q4.1) (l4 + (1 : Int32)) q4.2 _ h
      · replace h := (if_neg c3).symm.trans h
        refine i_rbF (c := q2.1 = (0 : Int32)) (t := 31) (n := 27) rfl c3 ?_
        refine i_rs 6 (cf' := (5, [some (.ref 50), some (.int l1), some (.int l2), some (.int (l3 + (0 : Int32))), some (.int (l4 + (1 : Int32)))], [], i_S X q2.2)) rfl ?_
        refine i_fg (lv' := [some (.ref 50), some (.int l1), some (.int l2), some (.int (l3 + (0 : Int32))), some (.int (l4 + (1 : Int32)))]) (And.intro rfl (And.intro rfl (And.intro rfl (And.intro rfl (And.intro rfl True.intro))))) ?_
        exact hself (l3 + (0 : Int32)) (l4 + (1 : Int32)) q2.2 _ h
    · replace h := (if_neg c1).symm.trans h
      refine i_rbF (c := l4 < (M.1 50 8)) (t := 14) (n := 54) rfl c1 ?_
      refine i_fg (lv' := [some (.ref 50), none, none, some (.int l3), none]) (And.intro rfl (And.intro rfl True.intro)) ?_
      exact hk54 l3 M _ h
def r_heardNow (l1 : Int32) (l2 : Int32) (M : I_M) : Option (Int32 × I_M) :=
  r_heardNow_L5 l1 l2 (fun l3_5 M5 =>
        Option.bind (r_heardOf l3_5 M5) (fun q6 => some (q6.1, q6.2))) i_F (0 : Int32) (0 : Int32) M
theorem ok_r_heardNow {X : Nat × (Nat → Int32)} {d : Nat} {l1 : Int32} {l2 : Int32} {M : I_M} {r : (Int32 × I_M)} (hd : 69 ≤ d) (h : r_heardNow l1 l2 M = some r) : I_Ex d 208 [.ref 50, .int l1, .int l2] (i_S X M) (some (.int r.1)) (i_S X r.2) := by
  obtain ⟨d, rfl⟩ : ∃ d1, d = d1 + 1 := ⟨d - 1, by omega⟩
  unfold r_heardNow at h
  refine i_ex (e := i_r208) (lv := [some (.ref 50), some (.int l1), some (.int l2), none, none]) rfl (Nat.le_of_ble_eq_true rfl) rfl ?_
  show I_RnE (I_Ex d) i_c208 (0, [some (.ref 50), some (.int l1), some (.int l2), none, none], [], i_S X M) _ _
  refine i_rs 4 (cf' := (5, [some (.ref 50), some (.int l1), some (.int l2), some (.int (0 : Int32)), some (.int (0 : Int32))], [], i_S X M)) rfl ?_
  refine i_fg (lv' := [some (.ref 50), some (.int l1), some (.int l2), some (.int (0 : Int32)), some (.int (0 : Int32))]) (And.intro rfl (And.intro rfl (And.intro rfl (And.intro rfl (And.intro rfl True.intro))))) ?_
  refine ok_r_heardNow_L5 (by omega) (fun l3_5 M5 r h => ?_) i_F (0 : Int32) (0 : Int32) M _ h
  refine i_rs 2 (cf' := (56, [some (.ref 50), none, none, some (.int l3_5), none], [.int l3_5, .ref 50], i_S X M5)) rfl ?_
  obtain ⟨q6, hq6, h⟩ := i_bdE h
  refine i_rcall (k := 209) (as := [.ref 50, .int l3_5]) (cf1 := (59, [some (.ref 50), none, none, some (.int l3_5), none], [], i_S X M5)) (cf' := (59, [some (.ref 50), none, none, some (.int l3_5), none], [.int q6.1], i_S X q6.2)) rfl (ok_r_heardOf (by omega) hq6) rfl ?_
  obtain rfl := Option.some.inj h
  exact i_rret rfl rfl
def r_heard (l1 : Int32) (l2 : Int32) (M : I_M) : Option (Int32 × I_M) :=
  Option.bind (r_isNc l1 M) (fun q1 => (if q1.1 = (0 : Int32) then
      some ((-1 : Int32), q1.2)
    else
      Option.bind (r_isCell l2 q1.2) (fun q3 => (if q3.1 = (0 : Int32) then
        some ((-1 : Int32), q3.2)
      else
        Option.bind (r_heardNow l1 l2 q3.2) (fun q5 => some (q5.1, q5.2))))))
theorem ok_r_heard {X : Nat × (Nat → Int32)} {d : Nat} {l1 : Int32} {l2 : Int32} {M : I_M} {r : (Int32 × I_M)} (hd : 70 ≤ d) (h : r_heard l1 l2 M = some r) : I_Ex d 207 [.ref 50, .int l1, .int l2] (i_S X M) (some (.int r.1)) (i_S X r.2) := by
  obtain ⟨d, rfl⟩ : ∃ d1, d = d1 + 1 := ⟨d - 1, by omega⟩
  unfold r_heard at h
  refine i_ex (e := i_r207) (lv := [some (.ref 50), some (.int l1), some (.int l2)]) rfl (Nat.le_of_ble_eq_true rfl) rfl ?_
  show I_RnE (I_Ex d) i_c207 (0, [some (.ref 50), some (.int l1), some (.int l2)], [], i_S X M) _ _
  refine i_rs 2 (cf' := (2, [some (.ref 50), some (.int l1), some (.int l2)], [.int l1, .ref 50], i_S X M)) rfl ?_
  obtain ⟨q1, hq1, h⟩ := i_bdE h
  refine i_rcall (k := 203) (as := [.ref 50, .int l1]) (cf1 := (5, [some (.ref 50), some (.int l1), some (.int l2)], [], i_S X M)) (cf' := (5, [some (.ref 50), some (.int l1), some (.int l2)], [.int q1.1], i_S X q1.2)) rfl (ok_r_isNc (by omega) hq1) rfl ?_
  by_cases c2 : q1.1 = (0 : Int32)
  · replace h := (if_pos c2).symm.trans h
    refine i_rbT (c := q1.1 = (0 : Int32)) (t := 25) (n := 8) rfl c2 ?_
    refine i_rs 1 (cf' := (26, [some (.ref 50), some (.int l1), some (.int l2)], [.int (-1 : Int32)], i_S X q1.2)) rfl ?_
    obtain rfl := Option.some.inj h
    exact i_rret rfl rfl
  · replace h := (if_neg c2).symm.trans h
    refine i_rbF (c := q1.1 = (0 : Int32)) (t := 25) (n := 8) rfl c2 ?_
    refine i_rs 2 (cf' := (10, [some (.ref 50), some (.int l1), some (.int l2)], [.int l2, .ref 50], i_S X q1.2)) rfl ?_
    obtain ⟨q3, hq3, h⟩ := i_bdE h
    refine i_rcall (k := 183) (as := [.ref 50, .int l2]) (cf1 := (13, [some (.ref 50), some (.int l1), some (.int l2)], [], i_S X q1.2)) (cf' := (13, [some (.ref 50), some (.int l1), some (.int l2)], [.int q3.1], i_S X q3.2)) rfl (ok_r_isCell (by omega) hq3) rfl ?_
    by_cases c4 : q3.1 = (0 : Int32)
    · replace h := (if_pos c4).symm.trans h
      refine i_rbT (c := q3.1 = (0 : Int32)) (t := 25) (n := 16) rfl c4 ?_
      refine i_rs 1 (cf' := (26, [some (.ref 50), some (.int l1), some (.int l2)], [.int (-1 : Int32)], i_S X q3.2)) rfl ?_
      obtain rfl := Option.some.inj h
      exact i_rret rfl rfl
    · replace h := (if_neg c4).symm.trans h
      refine i_rbF (c := q3.1 = (0 : Int32)) (t := 25) (n := 16) rfl c4 ?_
      refine i_rs 3 (cf' := (19, [some (.ref 50), some (.int l1), some (.int l2)], [.int l2, .int l1, .ref 50], i_S X q3.2)) rfl ?_
      obtain ⟨q5, hq5, h⟩ := i_bdE h
      refine i_rcall (k := 208) (as := [.ref 50, .int l1, .int l2]) (cf1 := (22, [some (.ref 50), some (.int l1), some (.int l2)], [], i_S X q3.2)) (cf' := (22, [some (.ref 50), some (.int l1), some (.int l2)], [.int q5.1], i_S X q5.2)) rfl (ok_r_heardNow (by omega) hq5) rfl ?_
      refine i_rs 1 (cf' := (26, [some (.ref 50), some (.int l1), some (.int l2)], [.int q5.1], i_S X q5.2)) rfl ?_
      obtain rfl := Option.some.inj h
      exact i_rret rfl rfl
def b_Hearings_add_18 (l1 : Int32) (l2 : Int32) (l3 : Int32) (M : I_M) : Option (Int32 × I_M) :=
  (if (M.1 18 3) < (10 : Int32) then
      i_g (M.1 18 3) 10 (some ((1 : Int32), (i_wI (i_wI (i_wI (i_wI M 19 (Int32.toNatClampNeg (M.1 18 3)) l1) 20 (Int32.toNatClampNeg (M.1 18 3)) l2) 21 (Int32.toNatClampNeg (M.1 18 3)) l3) 18 3 ((M.1 18 3) + (1 : Int32)))))
    else
      some ((0 : Int32), M))
theorem ok_b_Hearings_add_18 {X : Nat × (Nat → Int32)} {d : Nat} {l1 : Int32} {l2 : Int32} {l3 : Int32} {M : I_M} {r : (Int32 × I_M)} (hd : 1 ≤ d) (h : b_Hearings_add_18 l1 l2 l3 M = some r) : I_Ex d 78 [.ref 18, .int l1, .int l2, .int l3] (i_S X M) (some (.int r.1)) (i_S X r.2) := by
  obtain ⟨d, rfl⟩ : ∃ d1, d = d1 + 1 := ⟨d - 1, by omega⟩
  unfold b_Hearings_add_18 at h
  refine i_ex (e := i_r78) (lv := [some (.ref 18), some (.int l1), some (.int l2), some (.int l3)]) rfl (Nat.le_of_ble_eq_true rfl) rfl ?_
  show I_RnE (I_Ex d) i_c78 (0, [some (.ref 18), some (.int l1), some (.int l2), some (.int l3)], [], i_S X M) _ _
  refine i_rs 3 (cf' := (6, [some (.ref 18), some (.int l1), some (.int l2), some (.int l3)], [.int (10 : Int32), .int (M.1 18 3)], i_S X M)) rfl ?_
  by_cases c1 : (M.1 18 3) < (10 : Int32)
  · replace h := (if_pos c1).symm.trans h
    refine i_rbT (c := (M.1 18 3) < (10 : Int32)) (t := 11) (n := 9) rfl c1 ?_
    refine i_rs 5 (cf' := (20, [some (.ref 18), some (.int l1), some (.int l2), some (.int l3)], [.int l1, .int (M.1 18 3), .ref 19], i_S X M)) rfl ?_
    obtain ⟨g2, h⟩ := i_gE h
    refine i_riast (n := 10) (cf' := (21, [some (.ref 18), some (.int l1), some (.int l2), some (.int l3)], [], i_S X (i_wI M 19 (Int32.toNatClampNeg (M.1 18 3)) l1))) rfl rfl (Or.inl rfl) g2 rfl ?_
    refine i_rs 5 (cf' := (30, [some (.ref 18), some (.int l1), some (.int l2), some (.int l3)], [.int l2, .int (M.1 18 3), .ref 20], i_S X (i_wI M 19 (Int32.toNatClampNeg (M.1 18 3)) l1))) rfl ?_
    refine i_riast (n := 10) (cf' := (31, [some (.ref 18), some (.int l1), some (.int l2), some (.int l3)], [], i_S X (i_wI (i_wI M 19 (Int32.toNatClampNeg (M.1 18 3)) l1) 20 (Int32.toNatClampNeg (M.1 18 3)) l2))) rfl rfl (Or.inl rfl) g2 rfl ?_
    refine i_rs 5 (cf' := (40, [some (.ref 18), some (.int l1), some (.int l2), some (.int l3)], [.int l3, .int (M.1 18 3), .ref 21], i_S X (i_wI (i_wI M 19 (Int32.toNatClampNeg (M.1 18 3)) l1) 20 (Int32.toNatClampNeg (M.1 18 3)) l2))) rfl ?_
    refine i_riast (n := 10) (cf' := (41, [some (.ref 18), some (.int l1), some (.int l2), some (.int l3)], [], i_S X (i_wI (i_wI (i_wI M 19 (Int32.toNatClampNeg (M.1 18 3)) l1) 20 (Int32.toNatClampNeg (M.1 18 3)) l2) 21 (Int32.toNatClampNeg (M.1 18 3)) l3))) rfl rfl (Or.inl rfl) g2 rfl ?_
    refine i_rs 7 (cf' := (52, [some (.ref 18), some (.int l1), some (.int l2), some (.int l3)], [.int (1 : Int32)], i_S X (i_wI (i_wI (i_wI (i_wI M 19 (Int32.toNatClampNeg (M.1 18 3)) l1) 20 (Int32.toNatClampNeg (M.1 18 3)) l2) 21 (Int32.toNatClampNeg (M.1 18 3)) l3) 18 3 ((M.1 18 3) + (1 : Int32))))) rfl ?_
    obtain rfl := Option.some.inj h
    exact i_rretZ rfl (Or.inr rfl) rfl
  · replace h := (if_neg c1).symm.trans h
    refine i_rbF (c := (M.1 18 3) < (10 : Int32)) (t := 11) (n := 9) rfl c1 ?_
    refine i_rs 1 (cf' := (10, [some (.ref 18), some (.int l1), some (.int l2), some (.int l3)], [.int (0 : Int32)], i_S X M)) rfl ?_
    obtain rfl := Option.some.inj h
    exact i_rretZ rfl (Or.inl rfl) rfl
def b_hearing (l1 : Int32) (l2 : Int32) (l3 : Int32) (M : I_M) : Option (Int32 × I_M) :=
  Option.bind (b_Land_isStrike l1 M) (fun q1 => (if q1.1 = (0 : Int32) then
      some ((-1 : Int32), q1.2)
    else
      Option.bind (b_Land_has l2 q1.2) (fun q3 => (if q3.1 = (0 : Int32) then
        some ((-1 : Int32), q3.2)
      else
        (if l3 < (0 : Int32) then
          some ((-1 : Int32), q3.2)
        else
          (if (99 : Int32) < l3 then
            some ((-1 : Int32), q3.2)
          else
            Option.bind (b_Hearings_add_18 l1 l2 l3 q3.2) (fun q7 => (if q7.1 = (0 : Int32) then
              some ((-3 : Int32), q7.2)
            else
              some (((q7.2.1 18 3) - (1 : Int32)), q7.2)))))))))
theorem ok_b_hearing {X : Nat × (Nat → Int32)} {d : Nat} {l1 : Int32} {l2 : Int32} {l3 : Int32} {M : I_M} {r : (Int32 × I_M)} (hd : 4 ≤ d) (h : b_hearing l1 l2 l3 M = some r) : I_Ex d 77 [.ref 0, .int l1, .int l2, .int l3] (i_S X M) (some (.int r.1)) (i_S X r.2) := by
  obtain ⟨d, rfl⟩ : ∃ d1, d = d1 + 1 := ⟨d - 1, by omega⟩
  unfold b_hearing at h
  refine i_ex (e := i_r77) (lv := [some (.ref 0), some (.int l1), some (.int l2), some (.int l3)]) rfl (Nat.le_of_ble_eq_true rfl) rfl ?_
  show I_RnE (I_Ex d) i_c77 (0, [some (.ref 0), some (.int l1), some (.int l2), some (.int l3)], [], i_S X M) _ _
  refine i_rs 3 (cf' := (5, [some (.ref 0), some (.int l1), some (.int l2), some (.int l3)], [.int l1, .ref 1], i_S X M)) rfl ?_
  obtain ⟨q1, hq1, h⟩ := i_bdE h
  refine i_rcall (k := 65) (as := [.ref 1, .int l1]) (cf1 := (8, [some (.ref 0), some (.int l1), some (.int l2), some (.int l3)], [], i_S X M)) (cf' := (8, [some (.ref 0), some (.int l1), some (.int l2), some (.int l3)], [.int q1.1], i_S X q1.2)) rfl (ok_b_Land_isStrike (by omega) hq1) rfl ?_
  by_cases c2 : q1.1 = (0 : Int32)
  · replace h := (if_pos c2).symm.trans h
    refine i_rbT (c := q1.1 = (0 : Int32)) (t := 32) (n := 11) rfl c2 ?_
    refine i_rs 1 (cf' := (33, [some (.ref 0), some (.int l1), some (.int l2), some (.int l3)], [.int (-1 : Int32)], i_S X q1.2)) rfl ?_
    obtain rfl := Option.some.inj h
    exact i_rret rfl rfl
  · replace h := (if_neg c2).symm.trans h
    refine i_rbF (c := q1.1 = (0 : Int32)) (t := 32) (n := 11) rfl c2 ?_
    refine i_rs 3 (cf' := (16, [some (.ref 0), some (.int l1), some (.int l2), some (.int l3)], [.int l2, .ref 1], i_S X q1.2)) rfl ?_
    obtain ⟨q3, hq3, h⟩ := i_bdE h
    refine i_rcall (k := 20) (as := [.ref 1, .int l2]) (cf1 := (19, [some (.ref 0), some (.int l1), some (.int l2), some (.int l3)], [], i_S X q1.2)) (cf' := (19, [some (.ref 0), some (.int l1), some (.int l2), some (.int l3)], [.int q3.1], i_S X q3.2)) rfl (ok_b_Land_has (by omega) hq3) rfl ?_
    by_cases c4 : q3.1 = (0 : Int32)
    · replace h := (if_pos c4).symm.trans h
      refine i_rbT (c := q3.1 = (0 : Int32)) (t := 32) (n := 22) rfl c4 ?_
      refine i_rs 1 (cf' := (33, [some (.ref 0), some (.int l1), some (.int l2), some (.int l3)], [.int (-1 : Int32)], i_S X q3.2)) rfl ?_
      obtain rfl := Option.some.inj h
      exact i_rret rfl rfl
    · replace h := (if_neg c4).symm.trans h
      refine i_rbF (c := q3.1 = (0 : Int32)) (t := 32) (n := 22) rfl c4 ?_
      refine i_rs 1 (cf' := (23, [some (.ref 0), some (.int l1), some (.int l2), some (.int l3)], [.int l3], i_S X q3.2)) rfl ?_
      by_cases c5 : l3 < (0 : Int32)
      · replace h := (if_pos c5).symm.trans h
        refine i_rbT (c := l3 < (0 : Int32)) (t := 32) (n := 26) rfl c5 ?_
        refine i_rs 1 (cf' := (33, [some (.ref 0), some (.int l1), some (.int l2), some (.int l3)], [.int (-1 : Int32)], i_S X q3.2)) rfl ?_
        obtain rfl := Option.some.inj h
        exact i_rret rfl rfl
      · replace h := (if_neg c5).symm.trans h
        refine i_rbF (c := l3 < (0 : Int32)) (t := 32) (n := 26) rfl c5 ?_
        refine i_rs 2 (cf' := (29, [some (.ref 0), some (.int l1), some (.int l2), some (.int l3)], [.int (99 : Int32), .int l3], i_S X q3.2)) rfl ?_
        by_cases c6 : (99 : Int32) < l3
        · replace h := (if_pos c6).symm.trans h
          refine i_rbT (c := (99 : Int32) < l3) (t := 32) (n := 34) rfl c6 ?_
          refine i_rs 1 (cf' := (33, [some (.ref 0), some (.int l1), some (.int l2), some (.int l3)], [.int (-1 : Int32)], i_S X q3.2)) rfl ?_
          obtain rfl := Option.some.inj h
          exact i_rret rfl rfl
        · replace h := (if_neg c6).symm.trans h
          refine i_rbF (c := (99 : Int32) < l3) (t := 32) (n := 34) rfl c6 ?_
          refine i_rs 5 (cf' := (41, [some (.ref 0), some (.int l1), some (.int l2), some (.int l3)], [.int l3, .int l2, .int l1, .ref 18], i_S X q3.2)) rfl ?_
          obtain ⟨q7, hq7, h⟩ := i_bdE h
          refine i_rcall (k := 78) (as := [.ref 18, .int l1, .int l2, .int l3]) (cf1 := (44, [some (.ref 0), some (.int l1), some (.int l2), some (.int l3)], [], i_S X q3.2)) (cf' := (44, [some (.ref 0), some (.int l1), some (.int l2), some (.int l3)], [.int q7.1], i_S X q7.2)) rfl (ok_b_Hearings_add_18 (by omega) hq7) rfl ?_
          by_cases c8 : q7.1 = (0 : Int32)
          · replace h := (if_pos c8).symm.trans h
            refine i_rbT (c := q7.1 = (0 : Int32)) (t := 59) (n := 47) rfl c8 ?_
            refine i_rs 1 (cf' := (61, [some (.ref 0), some (.int l1), some (.int l2), some (.int l3)], [.int (-3 : Int32)], i_S X q7.2)) rfl ?_
            obtain rfl := Option.some.inj h
            exact i_rret rfl rfl
          · replace h := (if_neg c8).symm.trans h
            refine i_rbF (c := q7.1 = (0 : Int32)) (t := 59) (n := 47) rfl c8 ?_
            refine i_rs 6 (cf' := (61, [some (.ref 0), some (.int l1), some (.int l2), some (.int l3)], [.int ((q7.2.1 18 3) - (1 : Int32))], i_S X q7.2)) rfl ?_
            obtain rfl := Option.some.inj h
            exact i_rret rfl rfl
def r_hearing (l1 : Int32) (l2 : Int32) (l3 : Int32) (M : I_M) : Option (Int32 × I_M) :=
  Option.bind (r_isNc l1 M) (fun q1 => (if q1.1 = (0 : Int32) then
      some ((-1 : Int32), q1.2)
    else
      Option.bind (r_isCell l2 q1.2) (fun q3 => (if q3.1 = (0 : Int32) then
        some ((-1 : Int32), q3.2)
      else
        Option.bind (r_within (Int32.toInt64 l3) (0 : Int64) (99 : Int64) q3.2) (fun q5 => (if q5.1 = (0 : Int32) then
          some ((-1 : Int32), q5.2)
        else
          (if (q5.2.1 50 24) = (10 : Int32) then
            some ((-3 : Int32), q5.2)
          else
            i_g ((3 : Int32) * (q5.2.1 50 24)) 30 (i_g (((3 : Int32) * (q5.2.1 50 24)) + (1 : Int32)) 30 (i_g (((3 : Int32) * (q5.2.1 50 24)) + (2 : Int32)) 30 (some ((((q5.2.1 50 24) + (1 : Int32)) - (1 : Int32)), (i_wI (i_wI (i_wI (i_wI q5.2 61 (Int32.toNatClampNeg ((3 : Int32) * (q5.2.1 50 24))) l1) 61 (Int32.toNatClampNeg (((3 : Int32) * (q5.2.1 50 24)) + (1 : Int32))) l2) 61 (Int32.toNatClampNeg (((3 : Int32) * (q5.2.1 50 24)) + (2 : Int32))) l3) 50 24 ((q5.2.1 50 24) + (1 : Int32))))))))))))))
theorem ok_r_hearing {X : Nat × (Nat → Int32)} {d : Nat} {l1 : Int32} {l2 : Int32} {l3 : Int32} {M : I_M} {r : (Int32 × I_M)} (hd : 4 ≤ d) (h : r_hearing l1 l2 l3 M = some r) : I_Ex d 210 [.ref 50, .int l1, .int l2, .int l3] (i_S X M) (some (.int r.1)) (i_S X r.2) := by
  obtain ⟨d, rfl⟩ : ∃ d1, d = d1 + 1 := ⟨d - 1, by omega⟩
  unfold r_hearing at h
  refine i_ex (e := i_r210) (lv := [some (.ref 50), some (.int l1), some (.int l2), some (.int l3)]) rfl (Nat.le_of_ble_eq_true rfl) rfl ?_
  show I_RnE (I_Ex d) i_c210 (0, [some (.ref 50), some (.int l1), some (.int l2), some (.int l3)], [], i_S X M) _ _
  refine i_rs 2 (cf' := (2, [some (.ref 50), some (.int l1), some (.int l2), some (.int l3)], [.int l1, .ref 50], i_S X M)) rfl ?_
  obtain ⟨q1, hq1, h⟩ := i_bdE h
  refine i_rcall (k := 203) (as := [.ref 50, .int l1]) (cf1 := (5, [some (.ref 50), some (.int l1), some (.int l2), some (.int l3)], [], i_S X M)) (cf' := (5, [some (.ref 50), some (.int l1), some (.int l2), some (.int l3)], [.int q1.1], i_S X q1.2)) rfl (ok_r_isNc (by omega) hq1) rfl ?_
  by_cases c2 : q1.1 = (0 : Int32)
  · replace h := (if_pos c2).symm.trans h
    refine i_rbT (c := q1.1 = (0 : Int32)) (t := 28) (n := 8) rfl c2 ?_
    refine i_rs 1 (cf' := (29, [some (.ref 50), some (.int l1), some (.int l2), some (.int l3)], [.int (-1 : Int32)], i_S X q1.2)) rfl ?_
    obtain rfl := Option.some.inj h
    exact i_rret rfl rfl
  · replace h := (if_neg c2).symm.trans h
    refine i_rbF (c := q1.1 = (0 : Int32)) (t := 28) (n := 8) rfl c2 ?_
    refine i_rs 2 (cf' := (10, [some (.ref 50), some (.int l1), some (.int l2), some (.int l3)], [.int l2, .ref 50], i_S X q1.2)) rfl ?_
    obtain ⟨q3, hq3, h⟩ := i_bdE h
    refine i_rcall (k := 183) (as := [.ref 50, .int l2]) (cf1 := (13, [some (.ref 50), some (.int l1), some (.int l2), some (.int l3)], [], i_S X q1.2)) (cf' := (13, [some (.ref 50), some (.int l1), some (.int l2), some (.int l3)], [.int q3.1], i_S X q3.2)) rfl (ok_r_isCell (by omega) hq3) rfl ?_
    by_cases c4 : q3.1 = (0 : Int32)
    · replace h := (if_pos c4).symm.trans h
      refine i_rbT (c := q3.1 = (0 : Int32)) (t := 28) (n := 16) rfl c4 ?_
      refine i_rs 1 (cf' := (29, [some (.ref 50), some (.int l1), some (.int l2), some (.int l3)], [.int (-1 : Int32)], i_S X q3.2)) rfl ?_
      obtain rfl := Option.some.inj h
      exact i_rret rfl rfl
    · replace h := (if_neg c4).symm.trans h
      refine i_rbF (c := q3.1 = (0 : Int32)) (t := 28) (n := 16) rfl c4 ?_
      refine i_rs 4 (cf' := (22, [some (.ref 50), some (.int l1), some (.int l2), some (.int l3)], [.long (99 : Int64), .long (0 : Int64), .long (Int32.toInt64 l3)], i_S X q3.2)) rfl ?_
      obtain ⟨q5, hq5, h⟩ := i_bdE h
      refine i_rcall (k := 175) (as := [.long (Int32.toInt64 l3), .long (0 : Int64), .long (99 : Int64)]) (cf1 := (25, [some (.ref 50), some (.int l1), some (.int l2), some (.int l3)], [], i_S X q3.2)) (cf' := (25, [some (.ref 50), some (.int l1), some (.int l2), some (.int l3)], [.int q5.1], i_S X q5.2)) rfl (ok_r_within (by omega) hq5) rfl ?_
      by_cases c6 : q5.1 = (0 : Int32)
      · replace h := (if_pos c6).symm.trans h
        refine i_rbT (c := q5.1 = (0 : Int32)) (t := 28) (n := 30) rfl c6 ?_
        refine i_rs 1 (cf' := (29, [some (.ref 50), some (.int l1), some (.int l2), some (.int l3)], [.int (-1 : Int32)], i_S X q5.2)) rfl ?_
        obtain rfl := Option.some.inj h
        exact i_rret rfl rfl
      · replace h := (if_neg c6).symm.trans h
        refine i_rbF (c := q5.1 = (0 : Int32)) (t := 28) (n := 30) rfl c6 ?_
        refine i_rs 3 (cf' := (36, [some (.ref 50), some (.int l1), some (.int l2), some (.int l3)], [.int (10 : Int32), .int (q5.2.1 50 24)], i_S X q5.2)) rfl ?_
        by_cases c7 : (q5.2.1 50 24) = (10 : Int32)
        · replace h := (if_pos c7).symm.trans h
          refine i_rbT (c := (q5.2.1 50 24) = (10 : Int32)) (t := 39) (n := 42) rfl c7 ?_
          refine i_rs 1 (cf' := (41, [some (.ref 50), some (.int l1), some (.int l2), some (.int l3)], [.int (-3 : Int32)], i_S X q5.2)) rfl ?_
          obtain rfl := Option.some.inj h
          exact i_rret rfl rfl
        · replace h := (if_neg c7).symm.trans h
          refine i_rbF (c := (q5.2.1 50 24) = (10 : Int32)) (t := 39) (n := 42) rfl c7 ?_
          refine i_rs 7 (cf' := (53, [some (.ref 50), some (.int l1), some (.int l2), some (.int l3)], [.int l1, .int ((3 : Int32) * (q5.2.1 50 24)), .ref 61], i_S X q5.2)) rfl ?_
          obtain ⟨g8, h⟩ := i_gE h
          refine i_riast (n := 30) (cf' := (54, [some (.ref 50), some (.int l1), some (.int l2), some (.int l3)], [], i_S X (i_wI q5.2 61 (Int32.toNatClampNeg ((3 : Int32) * (q5.2.1 50 24))) l1))) rfl rfl (Or.inl rfl) g8 rfl ?_
          refine i_rs 9 (cf' := (67, [some (.ref 50), some (.int l1), some (.int l2), some (.int l3)], [.int l2, .int (((3 : Int32) * (q5.2.1 50 24)) + (1 : Int32)), .ref 61], i_S X (i_wI q5.2 61 (Int32.toNatClampNeg ((3 : Int32) * (q5.2.1 50 24))) l1))) rfl ?_
          obtain ⟨g9, h⟩ := i_gE h
          refine i_riast (n := 30) (cf' := (68, [some (.ref 50), some (.int l1), some (.int l2), some (.int l3)], [], i_S X (i_wI (i_wI q5.2 61 (Int32.toNatClampNeg ((3 : Int32) * (q5.2.1 50 24))) l1) 61 (Int32.toNatClampNeg (((3 : Int32) * (q5.2.1 50 24)) + (1 : Int32))) l2))) rfl rfl (Or.inl rfl) g9 rfl ?_
          refine i_rs 9 (cf' := (81, [some (.ref 50), some (.int l1), some (.int l2), some (.int l3)], [.int l3, .int (((3 : Int32) * (q5.2.1 50 24)) + (2 : Int32)), .ref 61], i_S X (i_wI (i_wI q5.2 61 (Int32.toNatClampNeg ((3 : Int32) * (q5.2.1 50 24))) l1) 61 (Int32.toNatClampNeg (((3 : Int32) * (q5.2.1 50 24)) + (1 : Int32))) l2))) rfl ?_
          obtain ⟨g10, h⟩ := i_gE h
          refine i_riast (n := 30) (cf' := (82, [some (.ref 50), some (.int l1), some (.int l2), some (.int l3)], [], i_S X (i_wI (i_wI (i_wI q5.2 61 (Int32.toNatClampNeg ((3 : Int32) * (q5.2.1 50 24))) l1) 61 (Int32.toNatClampNeg (((3 : Int32) * (q5.2.1 50 24)) + (1 : Int32))) l2) 61 (Int32.toNatClampNeg (((3 : Int32) * (q5.2.1 50 24)) + (2 : Int32))) l3))) rfl rfl (Or.inl rfl) g10 rfl ?_
          refine i_rs 10 (cf' := (98, [some (.ref 50), some (.int l1), some (.int l2), some (.int l3)], [.int (((q5.2.1 50 24) + (1 : Int32)) - (1 : Int32))], i_S X (i_wI (i_wI (i_wI (i_wI q5.2 61 (Int32.toNatClampNeg ((3 : Int32) * (q5.2.1 50 24))) l1) 61 (Int32.toNatClampNeg (((3 : Int32) * (q5.2.1 50 24)) + (1 : Int32))) l2) 61 (Int32.toNatClampNeg (((3 : Int32) * (q5.2.1 50 24)) + (2 : Int32))) l3) 50 24 ((q5.2.1 50 24) + (1 : Int32))))) rfl ?_
          obtain rfl := Option.some.inj h
          exact i_rret rfl rfl
def b_forget (M : I_M) : Option (Int32 × I_M) :=
  (if (M.1 18 3) = (0 : Int32) then
      some ((-5 : Int32), M)
    else
      some (((M.1 18 3) - (1 : Int32)), (i_wI M 18 3 ((M.1 18 3) - (1 : Int32)))))
theorem ok_b_forget {X : Nat × (Nat → Int32)} {d : Nat} {M : I_M} {r : (Int32 × I_M)} (hd : 1 ≤ d) (h : b_forget M = some r) : I_Ex d 79 [.ref 0] (i_S X M) (some (.int r.1)) (i_S X r.2) := by
  obtain ⟨d, rfl⟩ : ∃ d1, d = d1 + 1 := ⟨d - 1, by omega⟩
  unfold b_forget at h
  refine i_ex (e := i_r79) (lv := [some (.ref 0)]) rfl (Nat.le_of_ble_eq_true rfl) rfl ?_
  show I_RnE (I_Ex d) i_c79 (0, [some (.ref 0)], [], i_S X M) _ _
  refine i_rs 3 (cf' := (7, [some (.ref 0)], [.int (M.1 18 3)], i_S X M)) rfl ?_
  by_cases c1 : (M.1 18 3) = (0 : Int32)
  · replace h := (if_pos c1).symm.trans h
    refine i_rbT (c := (M.1 18 3) = (0 : Int32)) (t := 10) (n := 13) rfl c1 ?_
    refine i_rs 1 (cf' := (12, [some (.ref 0)], [.int (-5 : Int32)], i_S X M)) rfl ?_
    obtain rfl := Option.some.inj h
    exact i_rret rfl rfl
  · replace h := (if_neg c1).symm.trans h
    refine i_rbF (c := (M.1 18 3) = (0 : Int32)) (t := 10) (n := 13) rfl c1 ?_
    refine i_rs 10 (cf' := (33, [some (.ref 0)], [.int ((M.1 18 3) - (1 : Int32))], i_S X (i_wI M 18 3 ((M.1 18 3) - (1 : Int32))))) rfl ?_
    obtain rfl := Option.some.inj h
    exact i_rret rfl rfl
def r_forget (M : I_M) : Option (Int32 × I_M) :=
  (if (M.1 50 24) = (0 : Int32) then
      some ((-5 : Int32), M)
    else
      some (((M.1 50 24) - (1 : Int32)), (i_wI M 50 24 ((M.1 50 24) - (1 : Int32)))))
theorem ok_r_forget {X : Nat × (Nat → Int32)} {d : Nat} {M : I_M} {r : (Int32 × I_M)} (hd : 1 ≤ d) (h : r_forget M = some r) : I_Ex d 211 [.ref 50] (i_S X M) (some (.int r.1)) (i_S X r.2) := by
  obtain ⟨d, rfl⟩ : ∃ d1, d = d1 + 1 := ⟨d - 1, by omega⟩
  unfold r_forget at h
  refine i_ex (e := i_r211) (lv := [some (.ref 50)]) rfl (Nat.le_of_ble_eq_true rfl) rfl ?_
  show I_RnE (I_Ex d) i_c211 (0, [some (.ref 50)], [], i_S X M) _ _
  refine i_rs 2 (cf' := (4, [some (.ref 50)], [.int (M.1 50 24)], i_S X M)) rfl ?_
  by_cases c1 : (M.1 50 24) = (0 : Int32)
  · replace h := (if_pos c1).symm.trans h
    refine i_rbT (c := (M.1 50 24) = (0 : Int32)) (t := 7) (n := 10) rfl c1 ?_
    refine i_rs 1 (cf' := (9, [some (.ref 50)], [.int (-5 : Int32)], i_S X M)) rfl ?_
    obtain rfl := Option.some.inj h
    exact i_rret rfl rfl
  · replace h := (if_neg c1).symm.trans h
    refine i_rbF (c := (M.1 50 24) = (0 : Int32)) (t := 7) (n := 10) rfl c1 ?_
    refine i_rs 8 (cf' := (24, [some (.ref 50)], [.int ((M.1 50 24) - (1 : Int32))], i_S X (i_wI M 50 24 ((M.1 50 24) - (1 : Int32))))) rfl ?_
    obtain rfl := Option.some.inj h
    exact i_rret rfl rfl
def b_isSize (l0 : Int32) (M : I_M) : Option (Int32 × I_M) :=
  (if l0 = (1 : Int32) then
      some ((1 : Int32), M)
    else
      (if l0 = (2 : Int32) then
        some ((1 : Int32), M)
      else
        some ((0 : Int32), M)))
theorem ok_b_isSize {X : Nat × (Nat → Int32)} {d : Nat} {l0 : Int32} {M : I_M} {r : (Int32 × I_M)} (hd : 1 ≤ d) (h : b_isSize l0 M = some r) : I_Ex d 81 [.int l0] (i_S X M) (some (.int r.1)) (i_S X r.2) := by
  obtain ⟨d, rfl⟩ : ∃ d1, d = d1 + 1 := ⟨d - 1, by omega⟩
  unfold b_isSize at h
  refine i_ex (e := i_r81) (lv := [some (.int l0)]) rfl (Nat.le_of_ble_eq_true rfl) rfl ?_
  show I_RnE (I_Ex d) i_c81 (0, [some (.int l0)], [], i_S X M) _ _
  refine i_rs 2 (cf' := (2, [some (.int l0)], [.int (1 : Int32), .int l0], i_S X M)) rfl ?_
  by_cases c1 : l0 = (1 : Int32)
  · replace h := (if_pos c1).symm.trans h
    refine i_rbT (c := l0 = (1 : Int32)) (t := 10) (n := 5) rfl c1 ?_
    refine i_rs 2 (cf' := (15, [some (.int l0)], [.int (1 : Int32)], i_S X M)) rfl ?_
    obtain rfl := Option.some.inj h
    exact i_rretZ rfl (Or.inr rfl) rfl
  · replace h := (if_neg c1).symm.trans h
    refine i_rbF (c := l0 = (1 : Int32)) (t := 10) (n := 5) rfl c1 ?_
    refine i_rs 2 (cf' := (7, [some (.int l0)], [.int (2 : Int32), .int l0], i_S X M)) rfl ?_
    by_cases c2 : l0 = (2 : Int32)
    · replace h := (if_pos c2).symm.trans h
      refine i_rbT (c := l0 = (2 : Int32)) (t := 10) (n := 14) rfl c2 ?_
      refine i_rs 2 (cf' := (15, [some (.int l0)], [.int (1 : Int32)], i_S X M)) rfl ?_
      obtain rfl := Option.some.inj h
      exact i_rretZ rfl (Or.inr rfl) rfl
    · replace h := (if_neg c2).symm.trans h
      refine i_rbF (c := l0 = (2 : Int32)) (t := 10) (n := 14) rfl c2 ?_
      refine i_rs 1 (cf' := (15, [some (.int l0)], [.int (0 : Int32)], i_S X M)) rfl ?_
      obtain rfl := Option.some.inj h
      exact i_rretZ rfl (Or.inl rfl) rfl
def b_Search_places (M : I_M) : Option (Int32 × I_M) :=
  Option.bind (b_Land_cells M) (fun q1 => some (((10 : Int32) * q1.1), q1.2))
theorem ok_b_Search_places {X : Nat × (Nat → Int32)} {d : Nat} {M : I_M} {r : (Int32 × I_M)} (hd : 2 ≤ d) (h : b_Search_places M = some r) : I_Ex d 84 [.ref 22] (i_S X M) (some (.int r.1)) (i_S X r.2) := by
  obtain ⟨d, rfl⟩ : ∃ d1, d = d1 + 1 := ⟨d - 1, by omega⟩
  unfold b_Search_places at h
  refine i_ex (e := i_r84) (lv := [some (.ref 22)]) rfl (Nat.le_of_ble_eq_true rfl) rfl ?_
  show I_RnE (I_Ex d) i_c84 (0, [some (.ref 22)], [], i_S X M) _ _
  refine i_rs 3 (cf' := (6, [some (.ref 22)], [.ref 1, .int (10 : Int32)], i_S X M)) rfl ?_
  obtain ⟨q1, hq1, h⟩ := i_bdE h
  refine i_rcall (k := 21) (as := [.ref 1]) (cf1 := (9, [some (.ref 22)], [.int (10 : Int32)], i_S X M)) (cf' := (9, [some (.ref 22)], [.int q1.1, .int (10 : Int32)], i_S X q1.2)) rfl (ok_b_Land_cells (by omega) hq1) rfl ?_
  refine i_rs 1 (cf' := (10, [some (.ref 22)], [.int ((10 : Int32) * q1.1)], i_S X q1.2)) rfl ?_
  obtain rfl := Option.some.inj h
  exact i_rret rfl rfl
def b_Search_listen_L42 (l1 : Int32) (l2 : Int32) (l3 : Int32) (k122 : I_M → Option I_M) : Nat → Int32 → I_M → Option I_M
  | 0, _, _ => none
  | n + 1, l4, M =>
    Option.bind (b_Search_places M) (fun q4 => (if l4 < q4.1 then
        Option.bind (b_Land_far l2 (l4 / (10 : Int32)) q4.2) (fun q6 => i_g l1 10 (Option.bind (b_Law_loudness q6.1 (i_abs (l3 - (i_rem l4 (10 : Int32)))) (q6.2.1 1 9) (l4 / (10 : Int32)) (q6.2.1 20 (Int32.toNatClampNeg l1)) q6.2) (fun q8 => i_g ((l1 * (250 : Int32)) + l4) 2500 ((b_Search_listen_L42 l1 l2 l3 k122 n) (l4 + (1 : Int32)) (i_wI q8.2 23 (Int32.toNatClampNeg ((l1 * (250 : Int32)) + l4)) q8.1)))))
      else
        k122  q4.2))
theorem ok_b_Search_listen_L42 {X : Nat × (Nat → Int32)} {d : Nat} {l1 : Int32} {l2 : Int32} {l3 : Int32} {k122 : I_M → Option I_M} (hd : 5 ≤ d + 1) (hk122 : ∀ (M : I_M) (r : I_M), k122 M = some r → I_RnE (I_Ex d) i_c83 (122, [some (.ref 22), some (.int l1), none, none, none, none], [], i_S X M) none (i_S X r)) : ∀ (n : Nat) (l4 : Int32) (M : I_M) (r : I_M), b_Search_listen_L42 l1 l2 l3 k122 n l4 M = some r → I_RnE (I_Ex d) i_c83 (42, [some (.ref 22), some (.int l1), some (.int l2), some (.int l3), some (.int l4), none], [], i_S X M) none (i_S X r) := by
  intro n
  induction n with
  | zero => intro _ M r h; cases h
  | succ n hself =>
    intro l4 M r h
    rw [b_Search_listen_L42] at h
    refine i_rs 2 (cf' := (45, [some (.ref 22), some (.int l1), some (.int l2), some (.int l3), some (.int l4), none], [.ref 22, .int l4], i_S X M)) rfl ?_
    obtain ⟨q4, hq4, h⟩ := i_bdE h
    refine i_rcall (k := 84) (as := [.ref 22]) (cf1 := (48, [some (.ref 22), some (.int l1), some (.int l2), some (.int l3), some (.int l4), none], [.int l4], i_S X M)) (cf' := (48, [some (.ref 22), some (.int l1), some (.int l2), some (.int l3), some (.int l4), none], [.int q4.1, .int l4], i_S X q4.2)) rfl (ok_b_Search_places (by omega) hq4) rfl ?_
    by_cases c5 : l4 < q4.1
    · replace h := (if_pos c5).symm.trans h
      refine i_rbT (c := l4 < q4.1) (t := 51) (n := 122) rfl c5 ?_
      refine i_rs 2 (cf' := (55, [some (.ref 22), some (.int l1), some (.int l2), some (.int l3), some (.int l4), none], [.int (10 : Int32), .int l4], i_S X q4.2)) rfl ?_
      refine i_rdiv (cf' := (56, [some (.ref 22), some (.int l1), some (.int l2), some (.int l3), some (.int l4), none], [.int (l4 / (10 : Int32))], i_S X q4.2)) rfl (by decide) rfl ?_
      refine i_rs 14 (cf' := (81, [some (.ref 22), some (.int l1), some (.int l2), some (.int l3), some (.int l4), some (.int (l4 / (10 : Int32)))], [.int (l4 / (10 : Int32)), .int l2, .ref 1, .ref 9, .int ((l1 * (250 : Int32)) + l4), .ref 23], i_S X q4.2)) rfl ?_
      obtain ⟨q6, hq6, h⟩ := i_bdE h
      refine i_rcall (k := 67) (as := [.ref 1, .int l2, .int (l4 / (10 : Int32))]) (cf1 := (84, [some (.ref 22), some (.int l1), some (.int l2), some (.int l3), some (.int l4), some (.int (l4 / (10 : Int32)))], [.ref 9, .int ((l1 * (250 : Int32)) + l4), .ref 23], i_S X q4.2)) (cf' := (84, [some (.ref 22), some (.int l1), some (.int l2), some (.int l3), some (.int l4), some (.int (l4 / (10 : Int32)))], [.int q6.1, .ref 9, .int ((l1 * (250 : Int32)) + l4), .ref 23], i_S X q6.2)) rfl (ok_b_Land_far (by omega) hq6) rfl ?_
      refine i_rs 3 (cf' := (89, [some (.ref 22), some (.int l1), some (.int l2), some (.int l3), some (.int l4), some (.int (l4 / (10 : Int32)))], [.int (10 : Int32), .int l4, .int l3, .int q6.1, .ref 9, .int ((l1 * (250 : Int32)) + l4), .ref 23], i_S X q6.2)) rfl ?_
      refine i_rrem (cf' := (90, [some (.ref 22), some (.int l1), some (.int l2), some (.int l3), some (.int l4), some (.int (l4 / (10 : Int32)))], [.int (i_rem l4 (10 : Int32)), .int l3, .int q6.1, .ref 9, .int ((l1 * (250 : Int32)) + l4), .ref 23], i_S X q6.2)) rfl (by decide) rfl ?_
      refine i_rs 10 (cf' := (111, [some (.ref 22), some (.int l1), some (.int l2), some (.int l3), some (.int l4), some (.int (l4 / (10 : Int32)))], [.int l1, .ref 20, .int (l4 / (10 : Int32)), .int (q6.2.1 1 9), .int (i_abs (l3 - (i_rem l4 (10 : Int32)))), .int q6.1, .ref 9, .int ((l1 * (250 : Int32)) + l4), .ref 23], i_S X q6.2)) rfl ?_
      obtain ⟨g7, h⟩ := i_gE h
      refine i_riald (n := 10) (cf' := (112, [some (.ref 22), some (.int l1), some (.int l2), some (.int l3), some (.int l4), some (.int (l4 / (10 : Int32)))], [.int (q6.2.1 20 (Int32.toNatClampNeg l1)), .int (l4 / (10 : Int32)), .int (q6.2.1 1 9), .int (i_abs (l3 - (i_rem l4 (10 : Int32)))), .int q6.1, .ref 9, .int ((l1 * (250 : Int32)) + l4), .ref 23], i_S X q6.2)) rfl rfl (by decide) g7 rfl ?_
      obtain ⟨q8, hq8, h⟩ := i_bdE h
      refine i_rcall (k := 68) (as := [.ref 9, .int q6.1, .int (i_abs (l3 - (i_rem l4 (10 : Int32)))), .int (q6.2.1 1 9), .int (l4 / (10 : Int32)), .int (q6.2.1 20 (Int32.toNatClampNeg l1))]) (cf1 := (115, [some (.ref 22), some (.int l1), some (.int l2), some (.int l3), some (.int l4), some (.int (l4 / (10 : Int32)))], [.int ((l1 * (250 : Int32)) + l4), .ref 23], i_S X q6.2)) (cf' := (115, [some (.ref 22), some (.int l1), some (.int l2), some (.int l3), some (.int l4), some (.int (l4 / (10 : Int32)))], [.int q8.1, .int ((l1 * (250 : Int32)) + l4), .ref 23], i_S X q8.2)) rfl (ok_b_Law_loudness (by omega) hq8) rfl ?_
      obtain ⟨g9, h⟩ := i_gE h
      refine i_riast (n := 2500) (cf' := (116, [some (.ref 22), some (.int l1), some (.int l2), some (.int l3), some (.int l4), some (.int (l4 / (10 : Int32)))], [], i_S X (i_wI q8.2 23 (Int32.toNatClampNeg ((l1 * (250 : Int32)) + l4)) q8.1))) rfl rfl (Or.inl rfl) g9 rfl ?_
      refine i_rs 2 (cf' := (42, [some (.ref 22), some (.int l1), some (.int l2), some (.int l3), some (.int (l4 + (1 : Int32))), some (.int (l4 / (10 : Int32)))], [], i_S X (i_wI q8.2 23 (Int32.toNatClampNeg ((l1 * (250 : Int32)) + l4)) q8.1))) rfl ?_
      refine i_fg (lv' := [some (.ref 22), some (.int l1), some (.int l2), some (.int l3), some (.int (l4 + (1 : Int32))), none]) (And.intro rfl (And.intro rfl (And.intro rfl (And.intro rfl (And.intro rfl True.intro))))) ?_
      exact hself (l4 + (1 : Int32)) (i_wI q8.2 23 (Int32.toNatClampNeg ((l1 * (250 : Int32)) + l4)) q8.1) _ h
    · replace h := (if_neg c5).symm.trans h
      refine i_rbF (c := l4 < q4.1) (t := 51) (n := 122) rfl c5 ?_
      refine i_fg (lv' := [some (.ref 22), some (.int l1), none, none, none, none]) (And.intro rfl (And.intro rfl True.intro)) ?_
      exact hk122  q4.2 _ h
def b_Search_listen_L2 : Nat → Int32 → I_M → Option I_M
  | 0, _, _ => none
  | n + 1, l1, M =>
    (if l1 < (M.1 18 3) then
        i_g l1 10 (b_Search_listen_L42 l1 (i_rem (M.1 19 (Int32.toNatClampNeg l1)) (100 : Int32)) ((M.1 19 (Int32.toNatClampNeg l1)) / (100 : Int32)) (fun M3 =>
            (b_Search_listen_L2 n) (l1 + (1 : Int32)) M3) i_F (0 : Int32) M)
      else
        some M)
theorem ok_b_Search_listen_L2 {X : Nat × (Nat → Int32)} {d : Nat} (hd : 5 ≤ d + 1) : ∀ (n : Nat) (l1 : Int32) (M : I_M) (r : I_M), b_Search_listen_L2 n l1 M = some r → I_RnE (I_Ex d) i_c83 (2, [some (.ref 22), some (.int l1), none, none, none, none], [], i_S X M) none (i_S X r) := by
  intro n
  induction n with
  | zero => intro _ M r h; cases h
  | succ n hself =>
    intro l1 M r h
    rw [b_Search_listen_L2] at h
    refine i_rs 4 (cf' := (10, [some (.ref 22), some (.int l1), none, none, none, none], [.int (M.1 18 3), .int l1], i_S X M)) rfl ?_
    by_cases c1 : l1 < (M.1 18 3)
    · replace h := (if_pos c1).symm.trans h
      refine i_rbT (c := l1 < (M.1 18 3)) (t := 13) (n := 128) rfl c1 ?_
      refine i_rs 4 (cf' := (21, [some (.ref 22), some (.int l1), none, none, none, none], [.int l1, .ref 19], i_S X M)) rfl ?_
      obtain ⟨g2, h⟩ := i_gE h
      refine i_riald (n := 10) (cf' := (22, [some (.ref 22), some (.int l1), none, none, none, none], [.int (M.1 19 (Int32.toNatClampNeg l1))], i_S X M)) rfl rfl (by decide) g2 rfl ?_
      refine i_rs 1 (cf' := (24, [some (.ref 22), some (.int l1), none, none, none, none], [.int (100 : Int32), .int (M.1 19 (Int32.toNatClampNeg l1))], i_S X M)) rfl ?_
      refine i_rrem (cf' := (25, [some (.ref 22), some (.int l1), none, none, none, none], [.int (i_rem (M.1 19 (Int32.toNatClampNeg l1)) (100 : Int32))], i_S X M)) rfl (by decide) rfl ?_
      refine i_rs 5 (cf' := (34, [some (.ref 22), some (.int l1), some (.int (i_rem (M.1 19 (Int32.toNatClampNeg l1)) (100 : Int32))), none, none, none], [.int l1, .ref 19], i_S X M)) rfl ?_
      refine i_riald (n := 10) (cf' := (35, [some (.ref 22), some (.int l1), some (.int (i_rem (M.1 19 (Int32.toNatClampNeg l1)) (100 : Int32))), none, none, none], [.int (M.1 19 (Int32.toNatClampNeg l1))], i_S X M)) rfl rfl (by decide) g2 rfl ?_
      refine i_rs 1 (cf' := (37, [some (.ref 22), some (.int l1), some (.int (i_rem (M.1 19 (Int32.toNatClampNeg l1)) (100 : Int32))), none, none, none], [.int (100 : Int32), .int (M.1 19 (Int32.toNatClampNeg l1))], i_S X M)) rfl ?_
      refine i_rdiv (cf' := (38, [some (.ref 22), some (.int l1), some (.int (i_rem (M.1 19 (Int32.toNatClampNeg l1)) (100 : Int32))), none, none, none], [.int ((M.1 19 (Int32.toNatClampNeg l1)) / (100 : Int32))], i_S X M)) rfl (by decide) rfl ?_
      refine i_rs 3 (cf' := (42, [some (.ref 22), some (.int l1), some (.int (i_rem (M.1 19 (Int32.toNatClampNeg l1)) (100 : Int32))), some (.int ((M.1 19 (Int32.toNatClampNeg l1)) / (100 : Int32))), some (.int (0 : Int32)), none], [], i_S X M)) rfl ?_
      refine i_fg (lv' := [some (.ref 22), some (.int l1), some (.int (i_rem (M.1 19 (Int32.toNatClampNeg l1)) (100 : Int32))), some (.int ((M.1 19 (Int32.toNatClampNeg l1)) / (100 : Int32))), some (.int (0 : Int32)), none]) (And.intro rfl (And.intro rfl (And.intro rfl (And.intro rfl (And.intro rfl True.intro))))) ?_
      refine ok_b_Search_listen_L42 (by omega) (fun M3 r h => ?_) i_F (0 : Int32) M _ h
      refine i_rs 2 (cf' := (2, [some (.ref 22), some (.int (l1 + (1 : Int32))), none, none, none, none], [], i_S X M3)) rfl ?_
      refine i_fg (lv' := [some (.ref 22), some (.int (l1 + (1 : Int32))), none, none, none, none]) (And.intro rfl (And.intro rfl True.intro)) ?_
      exact hself (l1 + (1 : Int32)) M3 _ h
    · replace h := (if_neg c1).symm.trans h
      refine i_rbF (c := l1 < (M.1 18 3)) (t := 13) (n := 128) rfl c1 ?_
      obtain rfl := Option.some.inj h
      exact i_rret rfl rfl
def b_Search_listen (M : I_M) : Option I_M :=
  b_Search_listen_L2 i_F (0 : Int32) M
theorem ok_b_Search_listen {X : Nat × (Nat → Int32)} {d : Nat} {M : I_M} {r : I_M} (hd : 5 ≤ d) (h : b_Search_listen M = some r) : I_Ex d 83 [.ref 22] (i_S X M) none (i_S X r) := by
  obtain ⟨d, rfl⟩ : ∃ d1, d = d1 + 1 := ⟨d - 1, by omega⟩
  unfold b_Search_listen at h
  refine i_ex (e := i_r83) (lv := [some (.ref 22), none, none, none, none, none]) rfl (Nat.le_of_ble_eq_true rfl) rfl ?_
  show I_RnE (I_Ex d) i_c83 (0, [some (.ref 22), none, none, none, none, none], [], i_S X M) _ _
  refine i_rs 2 (cf' := (2, [some (.ref 22), some (.int (0 : Int32)), none, none, none, none], [], i_S X M)) rfl ?_
  refine i_fg (lv' := [some (.ref 22), some (.int (0 : Int32)), none, none, none, none]) (And.intro rfl (And.intro rfl True.intro)) ?_
  refine ok_b_Search_listen_L2 (by omega) i_F (0 : Int32) M _ h
def j_fillI_24_L5 (l1 : Int32) (l3 : Int32) : Nat → Int32 → I_M → Option I_M
  | 0, _, _ => none
  | n + 1, l2, M =>
    (if l2 < l3 then
        i_g l2 25 ((j_fillI_24_L5 l1 l3 n) (l2 + (1 : Int32)) (i_wI M 24 (Int32.toNatClampNeg l2) l1))
      else
        some M)
theorem ok_j_fillI_24_L5 {X : Nat × (Nat → Int32)} {d : Nat} {l1 : Int32} {l3 : Int32} (hd : 1 ≤ d + 1) : ∀ (n : Nat) (l2 : Int32) (M : I_M) (r : I_M), j_fillI_24_L5 l1 l3 n l2 M = some r → I_RnE (I_Ex d) i_c3 (5, [some (.ref 24), some (.int l1), some (.int l2), some (.int l3)], [], i_S X M) none (i_S X r) := by
  intro n
  induction n with
  | zero => intro _ M r h; cases h
  | succ n hself =>
    intro l2 M r h
    rw [j_fillI_24_L5] at h
    refine i_rs 2 (cf' := (7, [some (.ref 24), some (.int l1), some (.int l2), some (.int l3)], [.int l3, .int l2], i_S X M)) rfl ?_
    by_cases c1 : l2 < l3
    · replace h := (if_pos c1).symm.trans h
      refine i_rbT (c := l2 < l3) (t := 10) (n := 20) rfl c1 ?_
      refine i_rs 3 (cf' := (13, [some (.ref 24), some (.int l1), some (.int l2), some (.int l3)], [.int l1, .int l2, .ref 24], i_S X M)) rfl ?_
      obtain ⟨g2, h⟩ := i_gE h
      refine i_riast (n := 25) (cf' := (14, [some (.ref 24), some (.int l1), some (.int l2), some (.int l3)], [], i_S X (i_wI M 24 (Int32.toNatClampNeg l2) l1))) rfl rfl (Or.inl rfl) g2 rfl ?_
      refine i_rs 2 (cf' := (5, [some (.ref 24), some (.int l1), some (.int (l2 + (1 : Int32))), some (.int l3)], [], i_S X (i_wI M 24 (Int32.toNatClampNeg l2) l1))) rfl ?_
      refine i_fg (lv' := [some (.ref 24), some (.int l1), some (.int (l2 + (1 : Int32))), some (.int l3)]) (And.intro rfl (And.intro rfl (And.intro rfl (And.intro rfl True.intro)))) ?_
      exact hself (l2 + (1 : Int32)) (i_wI M 24 (Int32.toNatClampNeg l2) l1) _ h
    · replace h := (if_neg c1).symm.trans h
      refine i_rbF (c := l2 < l3) (t := 10) (n := 20) rfl c1 ?_
      obtain rfl := Option.some.inj h
      exact i_rret rfl rfl
def j_fillI_24 (l1 : Int32) (M : I_M) : Option I_M :=
  j_fillI_24_L5 l1 (25 : Int32) i_F (0 : Int32) M
theorem ok_j_fillI_24 {X : Nat × (Nat → Int32)} {d : Nat} {l1 : Int32} {M : I_M} {r : I_M} (hd : 1 ≤ d) (h : j_fillI_24 l1 M = some r) : I_Ex d 3 [.ref 24, .int l1] (i_S X M) none (i_S X r) := by
  obtain ⟨d, rfl⟩ : ∃ d1, d = d1 + 1 := ⟨d - 1, by omega⟩
  unfold j_fillI_24 at h
  refine i_ex (e := i_r3) (lv := [some (.ref 24), some (.int l1), none, none]) rfl (Nat.le_of_ble_eq_true rfl) rfl ?_
  show I_RnE (I_Ex d) i_c3 (0, [some (.ref 24), some (.int l1), none, none], [], i_S X M) _ _
  refine i_rs 5 (cf' := (5, [some (.ref 24), some (.int l1), some (.int (0 : Int32)), some (.int (25 : Int32))], [], i_S X M)) rfl ?_
  refine i_fg (lv' := [some (.ref 24), some (.int l1), some (.int (0 : Int32)), some (.int (25 : Int32))]) (And.intro rfl (And.intro rfl (And.intro rfl (And.intro rfl True.intro)))) ?_
  refine ok_j_fillI_24_L5 (by omega) i_F (0 : Int32) M _ h
def b_Search_secondsEnd (l1 : Int32) (l2 : Int32) (M : I_M) : Option (Int32 × I_M) :=
  (if l1 = (1 : Int32) then
      some ((l2 + (1 : Int32)), M)
    else
      Option.bind (b_Search_places M) (fun q2 => some (q2.1, q2.2)))
theorem ok_b_Search_secondsEnd {X : Nat × (Nat → Int32)} {d : Nat} {l1 : Int32} {l2 : Int32} {M : I_M} {r : (Int32 × I_M)} (hd : 3 ≤ d) (h : b_Search_secondsEnd l1 l2 M = some r) : I_Ex d 85 [.ref 22, .int l1, .int l2] (i_S X M) (some (.int r.1)) (i_S X r.2) := by
  obtain ⟨d, rfl⟩ : ∃ d1, d = d1 + 1 := ⟨d - 1, by omega⟩
  unfold b_Search_secondsEnd at h
  refine i_ex (e := i_r85) (lv := [some (.ref 22), some (.int l1), some (.int l2)]) rfl (Nat.le_of_ble_eq_true rfl) rfl ?_
  show I_RnE (I_Ex d) i_c85 (0, [some (.ref 22), some (.int l1), some (.int l2)], [], i_S X M) _ _
  refine i_rs 2 (cf' := (2, [some (.ref 22), some (.int l1), some (.int l2)], [.int (1 : Int32), .int l1], i_S X M)) rfl ?_
  by_cases c1 : l1 = (1 : Int32)
  · replace h := (if_pos c1).symm.trans h
    refine i_rbT (c := l1 = (1 : Int32)) (t := 5) (n := 11) rfl c1 ?_
    refine i_rs 4 (cf' := (15, [some (.ref 22), some (.int l1), some (.int l2)], [.int (l2 + (1 : Int32))], i_S X M)) rfl ?_
    obtain rfl := Option.some.inj h
    exact i_rret rfl rfl
  · replace h := (if_neg c1).symm.trans h
    refine i_rbF (c := l1 = (1 : Int32)) (t := 5) (n := 11) rfl c1 ?_
    refine i_rs 1 (cf' := (12, [some (.ref 22), some (.int l1), some (.int l2)], [.ref 22], i_S X M)) rfl ?_
    obtain ⟨q2, hq2, h⟩ := i_bdE h
    refine i_rcall (k := 84) (as := [.ref 22]) (cf1 := (15, [some (.ref 22), some (.int l1), some (.int l2)], [], i_S X M)) (cf' := (15, [some (.ref 22), some (.int l1), some (.int l2)], [.int q2.1], i_S X q2.2)) rfl (ok_b_Search_places (by omega) hq2) rfl ?_
    obtain rfl := Option.some.inj h
    exact i_rret rfl rfl
def b_Search_seconds (l1 : Int32) (l2 : Int32) (M : I_M) : Option (Int32 × I_M) :=
  (if l1 = (1 : Int32) then
      some (l2, M)
    else
      some ((((l2 / (10 : Int32)) + (1 : Int32)) * (10 : Int32)), M))
theorem ok_b_Search_seconds {X : Nat × (Nat → Int32)} {d : Nat} {l1 : Int32} {l2 : Int32} {M : I_M} {r : (Int32 × I_M)} (hd : 1 ≤ d) (h : b_Search_seconds l1 l2 M = some r) : I_Ex d 86 [.ref 22, .int l1, .int l2] (i_S X M) (some (.int r.1)) (i_S X r.2) := by
  obtain ⟨d, rfl⟩ : ∃ d1, d = d1 + 1 := ⟨d - 1, by omega⟩
  unfold b_Search_seconds at h
  refine i_ex (e := i_r86) (lv := [some (.ref 22), some (.int l1), some (.int l2)]) rfl (Nat.le_of_ble_eq_true rfl) rfl ?_
  show I_RnE (I_Ex d) i_c86 (0, [some (.ref 22), some (.int l1), some (.int l2)], [], i_S X M) _ _
  refine i_rs 2 (cf' := (2, [some (.ref 22), some (.int l1), some (.int l2)], [.int (1 : Int32), .int l1], i_S X M)) rfl ?_
  by_cases c1 : l1 = (1 : Int32)
  · replace h := (if_pos c1).symm.trans h
    refine i_rbT (c := l1 = (1 : Int32)) (t := 5) (n := 9) rfl c1 ?_
    refine i_rs 2 (cf' := (18, [some (.ref 22), some (.int l1), some (.int l2)], [.int l2], i_S X M)) rfl ?_
    obtain rfl := Option.some.inj h
    exact i_rret rfl rfl
  · replace h := (if_neg c1).symm.trans h
    refine i_rbF (c := l1 = (1 : Int32)) (t := 5) (n := 9) rfl c1 ?_
    refine i_rs 2 (cf' := (12, [some (.ref 22), some (.int l1), some (.int l2)], [.int (10 : Int32), .int l2], i_S X M)) rfl ?_
    refine i_rdiv (cf' := (13, [some (.ref 22), some (.int l1), some (.int l2)], [.int (l2 / (10 : Int32))], i_S X M)) rfl (by decide) rfl ?_
    refine i_rs 4 (cf' := (18, [some (.ref 22), some (.int l1), some (.int l2)], [.int (((l2 / (10 : Int32)) + (1 : Int32)) * (10 : Int32))], i_S X M)) rfl ?_
    obtain rfl := Option.some.inj h
    exact i_rret rfl rfl
def b_Search_isSo_B36 (l1 : Int32) (l4 : Int32) (M : I_M) : Option (Int32 × I_M) :=
  Option.bind (b_Law_heardOf l4 M) (fun q1 => i_g l1 10 ((if q1.1 = (q1.2.1 21 (Int32.toNatClampNeg l1)) then
      some ((1 : Int32), q1.2)
    else
      some ((0 : Int32), q1.2))))
theorem ok_b_Search_isSo_B36 {X : Nat × (Nat → Int32)} {d : Nat} {l1 : Int32} {l4 : Int32} {M : I_M} {r : (Int32 × I_M)} (hd : 2 ≤ d + 1) (h : b_Search_isSo_B36 l1 l4 M = some r) : I_RnE (I_Ex d) i_c88 (36, [some (.ref 22), some (.int l1), none, none, some (.int l4)], [], i_S X M) (some (.int r.1)) (i_S X r.2) := by
  unfold b_Search_isSo_B36 at h
  refine i_rs 3 (cf' := (42, [some (.ref 22), some (.int l1), none, none, some (.int l4)], [.int l4, .ref 9], i_S X M)) rfl ?_
  obtain ⟨q1, hq1, h⟩ := i_bdE h
  refine i_rcall (k := 76) (as := [.ref 9, .int l4]) (cf1 := (45, [some (.ref 22), some (.int l1), none, none, some (.int l4)], [], i_S X M)) (cf' := (45, [some (.ref 22), some (.int l1), none, none, some (.int l4)], [.int q1.1], i_S X q1.2)) rfl (ok_b_Law_heardOf (by omega) hq1) rfl ?_
  refine i_rs 4 (cf' := (53, [some (.ref 22), some (.int l1), none, none, some (.int l4)], [.int l1, .ref 21, .int q1.1], i_S X q1.2)) rfl ?_
  obtain ⟨g2, h⟩ := i_gE h
  refine i_riald (n := 10) (cf' := (54, [some (.ref 22), some (.int l1), none, none, some (.int l4)], [.int (q1.2.1 21 (Int32.toNatClampNeg l1)), .int q1.1], i_S X q1.2)) rfl rfl (by decide) g2 rfl ?_
  by_cases c3 : q1.1 = (q1.2.1 21 (Int32.toNatClampNeg l1))
  · replace h := (if_pos c3).symm.trans h
    refine i_rbT (c := q1.1 = (q1.2.1 21 (Int32.toNatClampNeg l1))) (t := 57) (n := 61) rfl c3 ?_
    refine i_rs 2 (cf' := (62, [some (.ref 22), some (.int l1), none, none, some (.int l4)], [.int (1 : Int32)], i_S X q1.2)) rfl ?_
    obtain rfl := Option.some.inj h
    exact i_rretZ rfl (Or.inr rfl) rfl
  · replace h := (if_neg c3).symm.trans h
    refine i_rbF (c := q1.1 = (q1.2.1 21 (Int32.toNatClampNeg l1))) (t := 57) (n := 61) rfl c3 ?_
    refine i_rs 1 (cf' := (62, [some (.ref 22), some (.int l1), none, none, some (.int l4)], [.int (0 : Int32)], i_S X q1.2)) rfl ?_
    obtain rfl := Option.some.inj h
    exact i_rretZ rfl (Or.inl rfl) rfl
def b_Search_isSo (l1 : Int32) (l2 : Int32) (l3 : Int32) (M : I_M) : Option (Int32 × I_M) :=
  i_g ((l1 * (250 : Int32)) + l2) 2500 ((if l3 = l2 then
      b_Search_isSo_B36 l1 (M.1 23 (Int32.toNatClampNeg ((l1 * (250 : Int32)) + l2))) M
    else
      i_g ((l1 * (250 : Int32)) + l3) 2500 (i_let ((M.1 23 (Int32.toNatClampNeg ((l1 * (250 : Int32)) + l2))) + (M.1 23 (Int32.toNatClampNeg ((l1 * (250 : Int32)) + l3)))) (fun x7 => b_Search_isSo_B36 l1 x7 M))))
theorem ok_b_Search_isSo {X : Nat × (Nat → Int32)} {d : Nat} {l1 : Int32} {l2 : Int32} {l3 : Int32} {M : I_M} {r : (Int32 × I_M)} (hd : 2 ≤ d) (h : b_Search_isSo l1 l2 l3 M = some r) : I_Ex d 88 [.ref 22, .int l1, .int l2, .int l3] (i_S X M) (some (.int r.1)) (i_S X r.2) := by
  obtain ⟨d, rfl⟩ : ∃ d1, d = d1 + 1 := ⟨d - 1, by omega⟩
  unfold b_Search_isSo at h
  refine i_ex (e := i_r88) (lv := [some (.ref 22), some (.int l1), some (.int l2), some (.int l3), none]) rfl (Nat.le_of_ble_eq_true rfl) rfl ?_
  show I_RnE (I_Ex d) i_c88 (0, [some (.ref 22), some (.int l1), some (.int l2), some (.int l3), none], [], i_S X M) _ _
  refine i_rs 7 (cf' := (11, [some (.ref 22), some (.int l1), some (.int l2), some (.int l3), none], [.int ((l1 * (250 : Int32)) + l2), .ref 23], i_S X M)) rfl ?_
  obtain ⟨g4, h⟩ := i_gE h
  refine i_riald (n := 2500) (cf' := (12, [some (.ref 22), some (.int l1), some (.int l2), some (.int l3), none], [.int (M.1 23 (Int32.toNatClampNeg ((l1 * (250 : Int32)) + l2)))], i_S X M)) rfl rfl (by decide) g4 rfl ?_
  refine i_rs 3 (cf' := (16, [some (.ref 22), some (.int l1), some (.int l2), some (.int l3), some (.int (M.1 23 (Int32.toNatClampNeg ((l1 * (250 : Int32)) + l2))))], [.int l2, .int l3], i_S X M)) rfl ?_
  by_cases c5 : l3 = l2
  · replace h := (if_pos c5).symm.trans h
    refine i_rbT (c := l3 = l2) (t := 36) (n := 19) rfl c5 ?_
    refine i_fg (lv' := [some (.ref 22), some (.int l1), none, none, some (.int (M.1 23 (Int32.toNatClampNeg ((l1 * (250 : Int32)) + l2))))]) (And.intro rfl (And.intro rfl (And.intro rfl True.intro))) ?_
    exact ok_b_Search_isSo_B36 (by omega) h
  · replace h := (if_neg c5).symm.trans h
    refine i_rbF (c := l3 = l2) (t := 36) (n := 19) rfl c5 ?_
    refine i_rs 8 (cf' := (32, [some (.ref 22), some (.int l1), some (.int l2), some (.int l3), some (.int (M.1 23 (Int32.toNatClampNeg ((l1 * (250 : Int32)) + l2))))], [.int ((l1 * (250 : Int32)) + l3), .ref 23, .int (M.1 23 (Int32.toNatClampNeg ((l1 * (250 : Int32)) + l2)))], i_S X M)) rfl ?_
    obtain ⟨g6, h⟩ := i_gE h
    refine i_riald (n := 2500) (cf' := (33, [some (.ref 22), some (.int l1), some (.int l2), some (.int l3), some (.int (M.1 23 (Int32.toNatClampNeg ((l1 * (250 : Int32)) + l2))))], [.int (M.1 23 (Int32.toNatClampNeg ((l1 * (250 : Int32)) + l3))), .int (M.1 23 (Int32.toNatClampNeg ((l1 * (250 : Int32)) + l2)))], i_S X M)) rfl rfl (by decide) g6 rfl ?_
    refine i_rs 1 (cf' := (34, [some (.ref 22), some (.int l1), some (.int l2), some (.int l3), some (.int (M.1 23 (Int32.toNatClampNeg ((l1 * (250 : Int32)) + l2))))], [.int ((M.1 23 (Int32.toNatClampNeg ((l1 * (250 : Int32)) + l2))) + (M.1 23 (Int32.toNatClampNeg ((l1 * (250 : Int32)) + l3))))], i_S X M)) rfl ?_
    obtain ⟨x7, ex7, h⟩ := i_letE h
    refine i_cfe (cf' := (34, [some (.ref 22), some (.int l1), some (.int l2), some (.int l3), some (.int (M.1 23 (Int32.toNatClampNeg ((l1 * (250 : Int32)) + l2))))], [.int x7], i_S X M)) (by rw [ex7]) ?_
    refine i_rs 1 (cf' := (36, [some (.ref 22), some (.int l1), some (.int l2), some (.int l3), some (.int x7)], [], i_S X M)) rfl ?_
    refine i_fg (lv' := [some (.ref 22), some (.int l1), none, none, some (.int x7)]) (And.intro rfl (And.intro rfl (And.intro rfl True.intro))) ?_
    exact ok_b_Search_isSo_B36 (by omega) h
def b_Search_fits_L3 (l1 : Int32) (l2 : Int32) (l3 : Int32) : Nat → Int32 → I_M → Option (Int32 × I_M)
  | 0, _, _ => none
  | n + 1, l4, M =>
    (if l4 < (M.1 18 3) then
        (if l4 = l3 then
          (b_Search_fits_L3 l1 l2 l3 n) (l4 + (1 : Int32)) M
        else
          Option.bind (b_Search_isSo l4 l1 l2 M) (fun q3 => (if q3.1 = (0 : Int32) then
            some ((0 : Int32), q3.2)
          else
            (b_Search_fits_L3 l1 l2 l3 n) (l4 + (1 : Int32)) q3.2)))
      else
        some ((1 : Int32), M))
theorem ok_b_Search_fits_L3 {X : Nat × (Nat → Int32)} {d : Nat} {l1 : Int32} {l2 : Int32} {l3 : Int32} (hd : 3 ≤ d + 1) : ∀ (n : Nat) (l4 : Int32) (M : I_M) (r : (Int32 × I_M)), b_Search_fits_L3 l1 l2 l3 n l4 M = some r → I_RnE (I_Ex d) i_c87 (3, [some (.ref 22), some (.int l1), some (.int l2), some (.int l3), some (.int l4)], [], i_S X M) (some (.int r.1)) (i_S X r.2) := by
  intro n
  induction n with
  | zero => intro _ M r h; cases h
  | succ n hself =>
    intro l4 M r h
    rw [b_Search_fits_L3] at h
    refine i_rs 4 (cf' := (12, [some (.ref 22), some (.int l1), some (.int l2), some (.int l3), some (.int l4)], [.int (M.1 18 3), .int l4], i_S X M)) rfl ?_
    by_cases c1 : l4 < (M.1 18 3)
    · replace h := (if_pos c1).symm.trans h
      refine i_rbT (c := l4 < (M.1 18 3)) (t := 15) (n := 40) rfl c1 ?_
      refine i_rs 2 (cf' := (18, [some (.ref 22), some (.int l1), some (.int l2), some (.int l3), some (.int l4)], [.int l3, .int l4], i_S X M)) rfl ?_
      by_cases c2 : l4 = l3
      · replace h := (if_pos c2).symm.trans h
        refine i_rbT (c := l4 = l3) (t := 34) (n := 21) rfl c2 ?_
        refine i_rs 2 (cf' := (3, [some (.ref 22), some (.int l1), some (.int l2), some (.int l3), some (.int (l4 + (1 : Int32)))], [], i_S X M)) rfl ?_
        refine i_fg (lv' := [some (.ref 22), some (.int l1), some (.int l2), some (.int l3), some (.int (l4 + (1 : Int32)))]) (And.intro rfl (And.intro rfl (And.intro rfl (And.intro rfl (And.intro rfl True.intro))))) ?_
        exact hself (l4 + (1 : Int32)) M _ h
      · replace h := (if_neg c2).symm.trans h
        refine i_rbF (c := l4 = l3) (t := 34) (n := 21) rfl c2 ?_
        refine i_rs 4 (cf' := (26, [some (.ref 22), some (.int l1), some (.int l2), some (.int l3), some (.int l4)], [.int l2, .int l1, .int l4, .ref 22], i_S X M)) rfl ?_
        obtain ⟨q3, hq3, h⟩ := i_bdE h
        refine i_rcall (k := 88) (as := [.ref 22, .int l4, .int l1, .int l2]) (cf1 := (29, [some (.ref 22), some (.int l1), some (.int l2), some (.int l3), some (.int l4)], [], i_S X M)) (cf' := (29, [some (.ref 22), some (.int l1), some (.int l2), some (.int l3), some (.int l4)], [.int q3.1], i_S X q3.2)) rfl (ok_b_Search_isSo (by omega) hq3) rfl ?_
        by_cases c4 : q3.1 = (0 : Int32)
        · replace h := (if_pos c4).symm.trans h
          refine i_rbT (c := q3.1 = (0 : Int32)) (t := 32) (n := 34) rfl c4 ?_
          refine i_rs 1 (cf' := (33, [some (.ref 22), some (.int l1), some (.int l2), some (.int l3), some (.int l4)], [.int (0 : Int32)], i_S X q3.2)) rfl ?_
          obtain rfl := Option.some.inj h
          exact i_rretZ rfl (Or.inl rfl) rfl
        · replace h := (if_neg c4).symm.trans h
          refine i_rbF (c := q3.1 = (0 : Int32)) (t := 32) (n := 34) rfl c4 ?_
          refine i_rs 2 (cf' := (3, [some (.ref 22), some (.int l1), some (.int l2), some (.int l3), some (.int (l4 + (1 : Int32)))], [], i_S X q3.2)) rfl ?_
          refine i_fg (lv' := [some (.ref 22), some (.int l1), some (.int l2), some (.int l3), some (.int (l4 + (1 : Int32)))]) (And.intro rfl (And.intro rfl (And.intro rfl (And.intro rfl (And.intro rfl True.intro))))) ?_
          exact hself (l4 + (1 : Int32)) q3.2 _ h
    · replace h := (if_neg c1).symm.trans h
      refine i_rbF (c := l4 < (M.1 18 3)) (t := 15) (n := 40) rfl c1 ?_
      refine i_rs 1 (cf' := (41, [some (.ref 22), some (.int l1), some (.int l2), some (.int l3), some (.int l4)], [.int (1 : Int32)], i_S X M)) rfl ?_
      obtain rfl := Option.some.inj h
      exact i_rretZ rfl (Or.inr rfl) rfl
def b_Search_fits (l1 : Int32) (l2 : Int32) (l3 : Int32) (M : I_M) : Option (Int32 × I_M) :=
  b_Search_fits_L3 l1 l2 l3 i_F (0 : Int32) M
theorem ok_b_Search_fits {X : Nat × (Nat → Int32)} {d : Nat} {l1 : Int32} {l2 : Int32} {l3 : Int32} {M : I_M} {r : (Int32 × I_M)} (hd : 3 ≤ d) (h : b_Search_fits l1 l2 l3 M = some r) : I_Ex d 87 [.ref 22, .int l1, .int l2, .int l3] (i_S X M) (some (.int r.1)) (i_S X r.2) := by
  obtain ⟨d, rfl⟩ : ∃ d1, d = d1 + 1 := ⟨d - 1, by omega⟩
  unfold b_Search_fits at h
  refine i_ex (e := i_r87) (lv := [some (.ref 22), some (.int l1), some (.int l2), some (.int l3), none]) rfl (Nat.le_of_ble_eq_true rfl) rfl ?_
  show I_RnE (I_Ex d) i_c87 (0, [some (.ref 22), some (.int l1), some (.int l2), some (.int l3), none], [], i_S X M) _ _
  refine i_rs 2 (cf' := (3, [some (.ref 22), some (.int l1), some (.int l2), some (.int l3), some (.int (0 : Int32))], [], i_S X M)) rfl ?_
  refine i_fg (lv' := [some (.ref 22), some (.int l1), some (.int l2), some (.int l3), some (.int (0 : Int32))]) (And.intro rfl (And.intro rfl (And.intro rfl (And.intro rfl (And.intro rfl True.intro))))) ?_
  refine ok_b_Search_fits_L3 (by omega) i_F (0 : Int32) M _ h
def b_Search_countWay_B17 (l1 : Int32) (l2 : Int32) (M : I_M) : Option I_M :=
  i_g (l1 / (10 : Int32)) 25 ((if l2 = l1 then
      some (i_wI (i_wI M 22 5 ((M.1 22 5) + (1 : Int32))) 24 (Int32.toNatClampNeg (l1 / (10 : Int32))) ((M.1 24 (Int32.toNatClampNeg (l1 / (10 : Int32)))) + (1 : Int32)))
    else
      i_g (l2 / (10 : Int32)) 25 (some (i_wI (i_wI (i_wI M 22 5 ((M.1 22 5) + (1 : Int32))) 24 (Int32.toNatClampNeg (l1 / (10 : Int32))) ((M.1 24 (Int32.toNatClampNeg (l1 / (10 : Int32)))) + (1 : Int32))) 24 (Int32.toNatClampNeg (l2 / (10 : Int32))) (((i_wI (i_wI M 22 5 ((M.1 22 5) + (1 : Int32))) 24 (Int32.toNatClampNeg (l1 / (10 : Int32))) ((M.1 24 (Int32.toNatClampNeg (l1 / (10 : Int32)))) + (1 : Int32))).1 24 (Int32.toNatClampNeg (l2 / (10 : Int32)))) + (1 : Int32))))))
theorem ok_b_Search_countWay_B17 {X : Nat × (Nat → Int32)} {d : Nat} {l1 : Int32} {l2 : Int32} {M : I_M} {r : I_M} (hd : 1 ≤ d + 1) (h : b_Search_countWay_B17 l1 l2 M = some r) : I_RnE (I_Ex d) i_c89 (17, [some (.ref 22), some (.int l1), some (.int l2)], [], i_S X M) none (i_S X r) := by
  unfold b_Search_countWay_B17 at h
  refine i_rs 10 (cf' := (34, [some (.ref 22), some (.int l1), some (.int l2)], [.int (10 : Int32), .int l1, .ref 24], i_S X (i_wI M 22 5 ((M.1 22 5) + (1 : Int32))))) rfl ?_
  refine i_rdiv (cf' := (35, [some (.ref 22), some (.int l1), some (.int l2)], [.int (l1 / (10 : Int32)), .ref 24], i_S X (i_wI M 22 5 ((M.1 22 5) + (1 : Int32))))) rfl (by decide) rfl ?_
  refine i_rs 1 (cf' := (36, [some (.ref 22), some (.int l1), some (.int l2)], [.int (l1 / (10 : Int32)), .ref 24, .int (l1 / (10 : Int32)), .ref 24], i_S X (i_wI M 22 5 ((M.1 22 5) + (1 : Int32))))) rfl ?_
  obtain ⟨g1, h⟩ := i_gE h
  refine i_riald (n := 25) (cf' := (37, [some (.ref 22), some (.int l1), some (.int l2)], [.int (M.1 24 (Int32.toNatClampNeg (l1 / (10 : Int32)))), .int (l1 / (10 : Int32)), .ref 24], i_S X (i_wI M 22 5 ((M.1 22 5) + (1 : Int32))))) rfl rfl (by decide) g1 rfl ?_
  refine i_rs 2 (cf' := (39, [some (.ref 22), some (.int l1), some (.int l2)], [.int ((M.1 24 (Int32.toNatClampNeg (l1 / (10 : Int32)))) + (1 : Int32)), .int (l1 / (10 : Int32)), .ref 24], i_S X (i_wI M 22 5 ((M.1 22 5) + (1 : Int32))))) rfl ?_
  refine i_riast (n := 25) (cf' := (40, [some (.ref 22), some (.int l1), some (.int l2)], [], i_S X (i_wI (i_wI M 22 5 ((M.1 22 5) + (1 : Int32))) 24 (Int32.toNatClampNeg (l1 / (10 : Int32))) ((M.1 24 (Int32.toNatClampNeg (l1 / (10 : Int32)))) + (1 : Int32))))) rfl rfl (Or.inl rfl) g1 rfl ?_
  refine i_rs 2 (cf' := (42, [some (.ref 22), some (.int l1), some (.int l2)], [.int l1, .int l2], i_S X (i_wI (i_wI M 22 5 ((M.1 22 5) + (1 : Int32))) 24 (Int32.toNatClampNeg (l1 / (10 : Int32))) ((M.1 24 (Int32.toNatClampNeg (l1 / (10 : Int32)))) + (1 : Int32))))) rfl ?_
  by_cases c2 : l2 = l1
  · replace h := (if_pos c2).symm.trans h
    refine i_rbT (c := l2 = l1) (t := 58) (n := 45) rfl c2 ?_
    obtain rfl := Option.some.inj h
    exact i_rret rfl rfl
  · replace h := (if_neg c2).symm.trans h
    refine i_rbF (c := l2 = l1) (t := 58) (n := 45) rfl c2 ?_
    refine i_rs 4 (cf' := (52, [some (.ref 22), some (.int l1), some (.int l2)], [.int (10 : Int32), .int l2, .ref 24], i_S X (i_wI (i_wI M 22 5 ((M.1 22 5) + (1 : Int32))) 24 (Int32.toNatClampNeg (l1 / (10 : Int32))) ((M.1 24 (Int32.toNatClampNeg (l1 / (10 : Int32)))) + (1 : Int32))))) rfl ?_
    refine i_rdiv (cf' := (53, [some (.ref 22), some (.int l1), some (.int l2)], [.int (l2 / (10 : Int32)), .ref 24], i_S X (i_wI (i_wI M 22 5 ((M.1 22 5) + (1 : Int32))) 24 (Int32.toNatClampNeg (l1 / (10 : Int32))) ((M.1 24 (Int32.toNatClampNeg (l1 / (10 : Int32)))) + (1 : Int32))))) rfl (by decide) rfl ?_
    refine i_rs 1 (cf' := (54, [some (.ref 22), some (.int l1), some (.int l2)], [.int (l2 / (10 : Int32)), .ref 24, .int (l2 / (10 : Int32)), .ref 24], i_S X (i_wI (i_wI M 22 5 ((M.1 22 5) + (1 : Int32))) 24 (Int32.toNatClampNeg (l1 / (10 : Int32))) ((M.1 24 (Int32.toNatClampNeg (l1 / (10 : Int32)))) + (1 : Int32))))) rfl ?_
    obtain ⟨g3, h⟩ := i_gE h
    refine i_riald (n := 25) (cf' := (55, [some (.ref 22), some (.int l1), some (.int l2)], [.int ((i_wI (i_wI M 22 5 ((M.1 22 5) + (1 : Int32))) 24 (Int32.toNatClampNeg (l1 / (10 : Int32))) ((M.1 24 (Int32.toNatClampNeg (l1 / (10 : Int32)))) + (1 : Int32))).1 24 (Int32.toNatClampNeg (l2 / (10 : Int32)))), .int (l2 / (10 : Int32)), .ref 24], i_S X (i_wI (i_wI M 22 5 ((M.1 22 5) + (1 : Int32))) 24 (Int32.toNatClampNeg (l1 / (10 : Int32))) ((M.1 24 (Int32.toNatClampNeg (l1 / (10 : Int32)))) + (1 : Int32))))) rfl rfl (by decide) g3 rfl ?_
    refine i_rs 2 (cf' := (57, [some (.ref 22), some (.int l1), some (.int l2)], [.int (((i_wI (i_wI M 22 5 ((M.1 22 5) + (1 : Int32))) 24 (Int32.toNatClampNeg (l1 / (10 : Int32))) ((M.1 24 (Int32.toNatClampNeg (l1 / (10 : Int32)))) + (1 : Int32))).1 24 (Int32.toNatClampNeg (l2 / (10 : Int32)))) + (1 : Int32)), .int (l2 / (10 : Int32)), .ref 24], i_S X (i_wI (i_wI M 22 5 ((M.1 22 5) + (1 : Int32))) 24 (Int32.toNatClampNeg (l1 / (10 : Int32))) ((M.1 24 (Int32.toNatClampNeg (l1 / (10 : Int32)))) + (1 : Int32))))) rfl ?_
    refine i_riast (n := 25) (cf' := (58, [some (.ref 22), some (.int l1), some (.int l2)], [], i_S X (i_wI (i_wI (i_wI M 22 5 ((M.1 22 5) + (1 : Int32))) 24 (Int32.toNatClampNeg (l1 / (10 : Int32))) ((M.1 24 (Int32.toNatClampNeg (l1 / (10 : Int32)))) + (1 : Int32))) 24 (Int32.toNatClampNeg (l2 / (10 : Int32))) (((i_wI (i_wI M 22 5 ((M.1 22 5) + (1 : Int32))) 24 (Int32.toNatClampNeg (l1 / (10 : Int32))) ((M.1 24 (Int32.toNatClampNeg (l1 / (10 : Int32)))) + (1 : Int32))).1 24 (Int32.toNatClampNeg (l2 / (10 : Int32)))) + (1 : Int32))))) rfl rfl (Or.inl rfl) g3 rfl ?_
    obtain rfl := Option.some.inj h
    exact i_rret rfl rfl
def b_Search_countWay (l1 : Int32) (l2 : Int32) (M : I_M) : Option I_M :=
  (if (M.1 22 5) = (0 : Int32) then
      b_Search_countWay_B17 l1 l2 (i_wI (i_wI M 22 6 l1) 22 7 l2)
    else
      b_Search_countWay_B17 l1 l2 M)
theorem ok_b_Search_countWay {X : Nat × (Nat → Int32)} {d : Nat} {l1 : Int32} {l2 : Int32} {M : I_M} {r : I_M} (hd : 1 ≤ d) (h : b_Search_countWay l1 l2 M = some r) : I_Ex d 89 [.ref 22, .int l1, .int l2] (i_S X M) none (i_S X r) := by
  obtain ⟨d, rfl⟩ : ∃ d1, d = d1 + 1 := ⟨d - 1, by omega⟩
  unfold b_Search_countWay at h
  refine i_ex (e := i_r89) (lv := [some (.ref 22), some (.int l1), some (.int l2)]) rfl (Nat.le_of_ble_eq_true rfl) rfl ?_
  show I_RnE (I_Ex d) i_c89 (0, [some (.ref 22), some (.int l1), some (.int l2)], [], i_S X M) _ _
  refine i_rs 2 (cf' := (4, [some (.ref 22), some (.int l1), some (.int l2)], [.int (M.1 22 5)], i_S X M)) rfl ?_
  by_cases c4 : (M.1 22 5) = (0 : Int32)
  · replace h := (if_pos c4).symm.trans h
    refine i_rbT (c := (M.1 22 5) = (0 : Int32)) (t := 7) (n := 17) rfl c4 ?_
    refine i_rs 6 (cf' := (17, [some (.ref 22), some (.int l1), some (.int l2)], [], i_S X (i_wI (i_wI M 22 6 l1) 22 7 l2))) rfl ?_
    refine i_fg (lv' := [some (.ref 22), some (.int l1), some (.int l2)]) (And.intro rfl (And.intro rfl (And.intro rfl True.intro))) ?_
    exact ok_b_Search_countWay_B17 (by omega) h
  · replace h := (if_neg c4).symm.trans h
    refine i_rbF (c := (M.1 22 5) = (0 : Int32)) (t := 7) (n := 17) rfl c4 ?_
    refine i_fg (lv' := [some (.ref 22), some (.int l1), some (.int l2)]) (And.intro rfl (And.intro rfl (And.intro rfl True.intro))) ?_
    exact ok_b_Search_countWay_B17 (by omega) h
def b_Search_goThrough_L43 (l1 : Int32) (l2 : Int32) (l3 : Int32) (l4 : Int32) (k74 : I_M → Option I_M) : Nat → Int32 → I_M → Option I_M
  | 0, _, _ => none
  | n + 1, l5, M =>
    (if l5 < l4 then
        Option.bind (b_Search_fits l3 l5 l2 M) (fun q7 => (if q7.1 = (0 : Int32) then
          (b_Search_goThrough_L43 l1 l2 l3 l4 k74 n) (l5 + (1 : Int32)) q7.2
        else
          Option.bind (b_Search_countWay l3 l5 q7.2) (fun q9 => (b_Search_goThrough_L43 l1 l2 l3 l4 k74 n) (l5 + (1 : Int32)) q9)))
      else
        k74  M)
theorem ok_b_Search_goThrough_L43 {X : Nat × (Nat → Int32)} {d : Nat} {l1 : Int32} {l2 : Int32} {l3 : Int32} {l4 : Int32} {k74 : I_M → Option I_M} (hd : 6 ≤ d + 1) (hk74 : ∀ (M : I_M) (r : I_M), k74 M = some r → I_RnE (I_Ex d) i_c82 (74, [some (.ref 22), some (.int l1), some (.int l2), some (.int l3), none, none], [], i_S X M) none (i_S X r)) : ∀ (n : Nat) (l5 : Int32) (M : I_M) (r : I_M), b_Search_goThrough_L43 l1 l2 l3 l4 k74 n l5 M = some r → I_RnE (I_Ex d) i_c82 (43, [some (.ref 22), some (.int l1), some (.int l2), some (.int l3), some (.int l4), some (.int l5)], [], i_S X M) none (i_S X r) := by
  intro n
  induction n with
  | zero => intro _ M r h; cases h
  | succ n hself =>
    intro l5 M r h
    rw [b_Search_goThrough_L43] at h
    refine i_rs 2 (cf' := (47, [some (.ref 22), some (.int l1), some (.int l2), some (.int l3), some (.int l4), some (.int l5)], [.int l4, .int l5], i_S X M)) rfl ?_
    by_cases c6 : l5 < l4
    · replace h := (if_pos c6).symm.trans h
      refine i_rbT (c := l5 < l4) (t := 50) (n := 74) rfl c6 ?_
      refine i_rs 4 (cf' := (55, [some (.ref 22), some (.int l1), some (.int l2), some (.int l3), some (.int l4), some (.int l5)], [.int l2, .int l5, .int l3, .ref 22], i_S X M)) rfl ?_
      obtain ⟨q7, hq7, h⟩ := i_bdE h
      refine i_rcall (k := 87) (as := [.ref 22, .int l3, .int l5, .int l2]) (cf1 := (58, [some (.ref 22), some (.int l1), some (.int l2), some (.int l3), some (.int l4), some (.int l5)], [], i_S X M)) (cf' := (58, [some (.ref 22), some (.int l1), some (.int l2), some (.int l3), some (.int l4), some (.int l5)], [.int q7.1], i_S X q7.2)) rfl (ok_b_Search_fits (by omega) hq7) rfl ?_
      by_cases c8 : q7.1 = (0 : Int32)
      · replace h := (if_pos c8).symm.trans h
        refine i_rbT (c := q7.1 = (0 : Int32)) (t := 68) (n := 61) rfl c8 ?_
        refine i_rs 2 (cf' := (43, [some (.ref 22), some (.int l1), some (.int l2), some (.int l3), some (.int l4), some (.int (l5 + (1 : Int32)))], [], i_S X q7.2)) rfl ?_
        refine i_fg (lv' := [some (.ref 22), some (.int l1), some (.int l2), some (.int l3), some (.int l4), some (.int (l5 + (1 : Int32)))]) (And.intro rfl (And.intro rfl (And.intro rfl (And.intro rfl (And.intro rfl (And.intro rfl True.intro)))))) ?_
        exact hself (l5 + (1 : Int32)) q7.2 _ h
      · replace h := (if_neg c8).symm.trans h
        refine i_rbF (c := q7.1 = (0 : Int32)) (t := 68) (n := 61) rfl c8 ?_
        refine i_rs 3 (cf' := (65, [some (.ref 22), some (.int l1), some (.int l2), some (.int l3), some (.int l4), some (.int l5)], [.int l5, .int l3, .ref 22], i_S X q7.2)) rfl ?_
        obtain ⟨q9, hq9, h⟩ := i_bdE h
        refine i_rcall (k := 89) (as := [.ref 22, .int l3, .int l5]) (cf1 := (68, [some (.ref 22), some (.int l1), some (.int l2), some (.int l3), some (.int l4), some (.int l5)], [], i_S X q7.2)) (cf' := (68, [some (.ref 22), some (.int l1), some (.int l2), some (.int l3), some (.int l4), some (.int l5)], [], i_S X q9)) rfl (ok_b_Search_countWay (by omega) hq9) rfl ?_
        refine i_rs 2 (cf' := (43, [some (.ref 22), some (.int l1), some (.int l2), some (.int l3), some (.int l4), some (.int (l5 + (1 : Int32)))], [], i_S X q9)) rfl ?_
        refine i_fg (lv' := [some (.ref 22), some (.int l1), some (.int l2), some (.int l3), some (.int l4), some (.int (l5 + (1 : Int32)))]) (And.intro rfl (And.intro rfl (And.intro rfl (And.intro rfl (And.intro rfl (And.intro rfl True.intro)))))) ?_
        exact hself (l5 + (1 : Int32)) q9 _ h
    · replace h := (if_neg c6).symm.trans h
      refine i_rbF (c := l5 < l4) (t := 50) (n := 74) rfl c6 ?_
      refine i_fg (lv' := [some (.ref 22), some (.int l1), some (.int l2), some (.int l3), none, none]) (And.intro rfl (And.intro rfl (And.intro rfl (And.intro rfl True.intro)))) ?_
      exact hk74  M _ h
def b_Search_goThrough_L19 (l1 : Int32) (l2 : Int32) : Nat → Int32 → I_M → Option I_M
  | 0, _, _ => none
  | n + 1, l3, M =>
    Option.bind (b_Search_places M) (fun q1 => (if l3 < q1.1 then
        Option.bind (b_Search_secondsEnd l1 l3 q1.2) (fun q3 => Option.bind (b_Search_seconds l1 l3 q3.2) (fun q4 => b_Search_goThrough_L43 l1 l2 l3 q3.1 (fun M5 =>
            (b_Search_goThrough_L19 l1 l2 n) (l3 + (1 : Int32)) M5) i_F q4.1 q4.2))
      else
        some q1.2))
theorem ok_b_Search_goThrough_L19 {X : Nat × (Nat → Int32)} {d : Nat} {l1 : Int32} {l2 : Int32} (hd : 6 ≤ d + 1) : ∀ (n : Nat) (l3 : Int32) (M : I_M) (r : I_M), b_Search_goThrough_L19 l1 l2 n l3 M = some r → I_RnE (I_Ex d) i_c82 (19, [some (.ref 22), some (.int l1), some (.int l2), some (.int l3), none, none], [], i_S X M) none (i_S X r) := by
  intro n
  induction n with
  | zero => intro _ M r h; cases h
  | succ n hself =>
    intro l3 M r h
    rw [b_Search_goThrough_L19] at h
    refine i_rs 2 (cf' := (21, [some (.ref 22), some (.int l1), some (.int l2), some (.int l3), none, none], [.ref 22, .int l3], i_S X M)) rfl ?_
    obtain ⟨q1, hq1, h⟩ := i_bdE h
    refine i_rcall (k := 84) (as := [.ref 22]) (cf1 := (24, [some (.ref 22), some (.int l1), some (.int l2), some (.int l3), none, none], [.int l3], i_S X M)) (cf' := (24, [some (.ref 22), some (.int l1), some (.int l2), some (.int l3), none, none], [.int q1.1, .int l3], i_S X q1.2)) rfl (ok_b_Search_places (by omega) hq1) rfl ?_
    by_cases c2 : l3 < q1.1
    · replace h := (if_pos c2).symm.trans h
      refine i_rbT (c := l3 < q1.1) (t := 27) (n := 80) rfl c2 ?_
      refine i_rs 3 (cf' := (30, [some (.ref 22), some (.int l1), some (.int l2), some (.int l3), none, none], [.int l3, .int l1, .ref 22], i_S X q1.2)) rfl ?_
      obtain ⟨q3, hq3, h⟩ := i_bdE h
      refine i_rcall (k := 85) (as := [.ref 22, .int l1, .int l3]) (cf1 := (33, [some (.ref 22), some (.int l1), some (.int l2), some (.int l3), none, none], [], i_S X q1.2)) (cf' := (33, [some (.ref 22), some (.int l1), some (.int l2), some (.int l3), none, none], [.int q3.1], i_S X q3.2)) rfl (ok_b_Search_secondsEnd (by omega) hq3) rfl ?_
      refine i_rs 4 (cf' := (38, [some (.ref 22), some (.int l1), some (.int l2), some (.int l3), some (.int q3.1), none], [.int l3, .int l1, .ref 22], i_S X q3.2)) rfl ?_
      obtain ⟨q4, hq4, h⟩ := i_bdE h
      refine i_rcall (k := 86) (as := [.ref 22, .int l1, .int l3]) (cf1 := (41, [some (.ref 22), some (.int l1), some (.int l2), some (.int l3), some (.int q3.1), none], [], i_S X q3.2)) (cf' := (41, [some (.ref 22), some (.int l1), some (.int l2), some (.int l3), some (.int q3.1), none], [.int q4.1], i_S X q4.2)) rfl (ok_b_Search_seconds (by omega) hq4) rfl ?_
      refine i_rs 1 (cf' := (43, [some (.ref 22), some (.int l1), some (.int l2), some (.int l3), some (.int q3.1), some (.int q4.1)], [], i_S X q4.2)) rfl ?_
      refine i_fg (lv' := [some (.ref 22), some (.int l1), some (.int l2), some (.int l3), some (.int q3.1), some (.int q4.1)]) (And.intro rfl (And.intro rfl (And.intro rfl (And.intro rfl (And.intro rfl (And.intro rfl True.intro)))))) ?_
      refine ok_b_Search_goThrough_L43 (by omega) (fun M5 r h => ?_) i_F q4.1 q4.2 _ h
      refine i_rs 2 (cf' := (19, [some (.ref 22), some (.int l1), some (.int l2), some (.int (l3 + (1 : Int32))), none, none], [], i_S X M5)) rfl ?_
      refine i_fg (lv' := [some (.ref 22), some (.int l1), some (.int l2), some (.int (l3 + (1 : Int32))), none, none]) (And.intro rfl (And.intro rfl (And.intro rfl (And.intro rfl True.intro)))) ?_
      exact hself (l3 + (1 : Int32)) M5 _ h
    · replace h := (if_neg c2).symm.trans h
      refine i_rbF (c := l3 < q1.1) (t := 27) (n := 80) rfl c2 ?_
      obtain rfl := Option.some.inj h
      exact i_rret rfl rfl
def b_Search_goThrough (l1 : Int32) (l2 : Int32) (M : I_M) : Option I_M :=
  Option.bind (b_Search_listen M) (fun q10 => Option.bind (j_fillI_24 (0 : Int32) (i_wI q10 22 5 (0 : Int32))) (fun q11 => b_Search_goThrough_L19 l1 l2 i_F (0 : Int32) q11))
theorem ok_b_Search_goThrough {X : Nat × (Nat → Int32)} {d : Nat} {l1 : Int32} {l2 : Int32} {M : I_M} {r : I_M} (hd : 6 ≤ d) (h : b_Search_goThrough l1 l2 M = some r) : I_Ex d 82 [.ref 22, .int l1, .int l2] (i_S X M) none (i_S X r) := by
  obtain ⟨d, rfl⟩ : ∃ d1, d = d1 + 1 := ⟨d - 1, by omega⟩
  unfold b_Search_goThrough at h
  refine i_ex (e := i_r82) (lv := [some (.ref 22), some (.int l1), some (.int l2), none, none, none]) rfl (Nat.le_of_ble_eq_true rfl) rfl ?_
  show I_RnE (I_Ex d) i_c82 (0, [some (.ref 22), some (.int l1), some (.int l2), none, none, none], [], i_S X M) _ _
  refine i_rs 1 (cf' := (1, [some (.ref 22), some (.int l1), some (.int l2), none, none, none], [.ref 22], i_S X M)) rfl ?_
  obtain ⟨q10, hq10, h⟩ := i_bdE h
  refine i_rcall (k := 83) (as := [.ref 22]) (cf1 := (4, [some (.ref 22), some (.int l1), some (.int l2), none, none, none], [], i_S X M)) (cf' := (4, [some (.ref 22), some (.int l1), some (.int l2), none, none, none], [], i_S X q10)) rfl (ok_b_Search_listen (by omega) hq10) rfl ?_
  refine i_rs 6 (cf' := (14, [some (.ref 22), some (.int l1), some (.int l2), none, none, none], [.int (0 : Int32), .ref 24], i_S X (i_wI q10 22 5 (0 : Int32)))) rfl ?_
  obtain ⟨q11, hq11, h⟩ := i_bdE h
  refine i_rcall (k := 3) (as := [.ref 24, .int (0 : Int32)]) (cf1 := (17, [some (.ref 22), some (.int l1), some (.int l2), none, none, none], [], i_S X (i_wI q10 22 5 (0 : Int32)))) (cf' := (17, [some (.ref 22), some (.int l1), some (.int l2), none, none, none], [], i_S X q11)) rfl (ok_j_fillI_24 (by omega) hq11) rfl ?_
  refine i_rs 2 (cf' := (19, [some (.ref 22), some (.int l1), some (.int l2), some (.int (0 : Int32)), none, none], [], i_S X q11)) rfl ?_
  refine i_fg (lv' := [some (.ref 22), some (.int l1), some (.int l2), some (.int (0 : Int32)), none, none]) (And.intro rfl (And.intro rfl (And.intro rfl (And.intro rfl True.intro)))) ?_
  refine ok_b_Search_goThrough_L19 (by omega) i_F (0 : Int32) q11 _ h
def b_ways (l1 : Int32) (l2 : Int32) (M : I_M) : Option (Int32 × I_M) :=
  Option.bind (b_isSize l1 M) (fun q1 => (if q1.1 = (0 : Int32) then
      some ((-1 : Int32), q1.2)
    else
      (if l2 < (-1 : Int32) then
        some ((-1 : Int32), q1.2)
      else
        (if l2 < l1 then
          Option.bind (b_Search_goThrough l1 (-1 : Int32) q1.2) (fun q5 => (if l2 = (-1 : Int32) then
            some ((q5.1 22 5), q5)
          else
            (if (q5.1 22 5) = (0 : Int32) then
              some ((-2 : Int32), q5)
            else
              (if l2 = (0 : Int32) then
                some ((q5.1 22 6), q5)
              else
                some ((q5.1 22 7), q5)))))
        else
          some ((-1 : Int32), q1.2)))))
theorem ok_b_ways {X : Nat × (Nat → Int32)} {d : Nat} {l1 : Int32} {l2 : Int32} {M : I_M} {r : (Int32 × I_M)} (hd : 7 ≤ d) (h : b_ways l1 l2 M = some r) : I_Ex d 80 [.ref 0, .int l1, .int l2] (i_S X M) (some (.int r.1)) (i_S X r.2) := by
  obtain ⟨d, rfl⟩ : ∃ d1, d = d1 + 1 := ⟨d - 1, by omega⟩
  unfold b_ways at h
  refine i_ex (e := i_r80) (lv := [some (.ref 0), some (.int l1), some (.int l2)]) rfl (Nat.le_of_ble_eq_true rfl) rfl ?_
  show I_RnE (I_Ex d) i_c80 (0, [some (.ref 0), some (.int l1), some (.int l2)], [], i_S X M) _ _
  refine i_rs 1 (cf' := (1, [some (.ref 0), some (.int l1), some (.int l2)], [.int l1], i_S X M)) rfl ?_
  obtain ⟨q1, hq1, h⟩ := i_bdE h
  refine i_rcall (k := 81) (as := [.int l1]) (cf1 := (4, [some (.ref 0), some (.int l1), some (.int l2)], [], i_S X M)) (cf' := (4, [some (.ref 0), some (.int l1), some (.int l2)], [.int q1.1], i_S X q1.2)) rfl (ok_b_isSize (by omega) hq1) rfl ?_
  by_cases c2 : q1.1 = (0 : Int32)
  · replace h := (if_pos c2).symm.trans h
    refine i_rbT (c := q1.1 = (0 : Int32)) (t := 17) (n := 7) rfl c2 ?_
    refine i_rs 1 (cf' := (18, [some (.ref 0), some (.int l1), some (.int l2)], [.int (-1 : Int32)], i_S X q1.2)) rfl ?_
    obtain rfl := Option.some.inj h
    exact i_rret rfl rfl
  · replace h := (if_neg c2).symm.trans h
    refine i_rbF (c := q1.1 = (0 : Int32)) (t := 17) (n := 7) rfl c2 ?_
    refine i_rs 2 (cf' := (9, [some (.ref 0), some (.int l1), some (.int l2)], [.int (-1 : Int32), .int l2], i_S X q1.2)) rfl ?_
    by_cases c3 : l2 < (-1 : Int32)
    · replace h := (if_pos c3).symm.trans h
      refine i_rbT (c := l2 < (-1 : Int32)) (t := 17) (n := 12) rfl c3 ?_
      refine i_rs 1 (cf' := (18, [some (.ref 0), some (.int l1), some (.int l2)], [.int (-1 : Int32)], i_S X q1.2)) rfl ?_
      obtain rfl := Option.some.inj h
      exact i_rret rfl rfl
    · replace h := (if_neg c3).symm.trans h
      refine i_rbF (c := l2 < (-1 : Int32)) (t := 17) (n := 12) rfl c3 ?_
      refine i_rs 2 (cf' := (14, [some (.ref 0), some (.int l1), some (.int l2)], [.int l1, .int l2], i_S X q1.2)) rfl ?_
      by_cases c4 : l2 < l1
      · replace h := (if_pos c4).symm.trans h
        refine i_rbT (c := l2 < l1) (t := 19) (n := 17) rfl c4 ?_
        refine i_rs 4 (cf' := (25, [some (.ref 0), some (.int l1), some (.int l2)], [.int (-1 : Int32), .int l1, .ref 22], i_S X q1.2)) rfl ?_
        obtain ⟨q5, hq5, h⟩ := i_bdE h
        refine i_rcall (k := 82) (as := [.ref 22, .int l1, .int (-1 : Int32)]) (cf1 := (28, [some (.ref 0), some (.int l1), some (.int l2)], [], i_S X q1.2)) (cf' := (28, [some (.ref 0), some (.int l1), some (.int l2)], [], i_S X q5)) rfl (ok_b_Search_goThrough (by omega) hq5) rfl ?_
        refine i_rs 2 (cf' := (30, [some (.ref 0), some (.int l1), some (.int l2)], [.int (-1 : Int32), .int l2], i_S X q5)) rfl ?_
        by_cases c6 : l2 = (-1 : Int32)
        · replace h := (if_pos c6).symm.trans h
          refine i_rbT (c := l2 = (-1 : Int32)) (t := 33) (n := 41) rfl c6 ?_
          refine i_rs 3 (cf' := (40, [some (.ref 0), some (.int l1), some (.int l2)], [.int (q5.1 22 5)], i_S X q5)) rfl ?_
          obtain rfl := Option.some.inj h
          exact i_rret rfl rfl
        · replace h := (if_neg c6).symm.trans h
          refine i_rbF (c := l2 = (-1 : Int32)) (t := 33) (n := 41) rfl c6 ?_
          refine i_rs 3 (cf' := (48, [some (.ref 0), some (.int l1), some (.int l2)], [.int (q5.1 22 5)], i_S X q5)) rfl ?_
          by_cases c7 : (q5.1 22 5) = (0 : Int32)
          · replace h := (if_pos c7).symm.trans h
            refine i_rbT (c := (q5.1 22 5) = (0 : Int32)) (t := 51) (n := 54) rfl c7 ?_
            refine i_rs 1 (cf' := (53, [some (.ref 0), some (.int l1), some (.int l2)], [.int (-2 : Int32)], i_S X q5)) rfl ?_
            obtain rfl := Option.some.inj h
            exact i_rret rfl rfl
          · replace h := (if_neg c7).symm.trans h
            refine i_rbF (c := (q5.1 22 5) = (0 : Int32)) (t := 51) (n := 54) rfl c7 ?_
            refine i_rs 1 (cf' := (55, [some (.ref 0), some (.int l1), some (.int l2)], [.int l2], i_S X q5)) rfl ?_
            by_cases c8 : l2 = (0 : Int32)
            · replace h := (if_pos c8).symm.trans h
              refine i_rbT (c := l2 = (0 : Int32)) (t := 58) (n := 68) rfl c8 ?_
              refine i_rs 4 (cf' := (75, [some (.ref 0), some (.int l1), some (.int l2)], [.int (q5.1 22 6)], i_S X q5)) rfl ?_
              obtain rfl := Option.some.inj h
              exact i_rret rfl rfl
            · replace h := (if_neg c8).symm.trans h
              refine i_rbF (c := l2 = (0 : Int32)) (t := 58) (n := 68) rfl c8 ?_
              refine i_rs 3 (cf' := (75, [some (.ref 0), some (.int l1), some (.int l2)], [.int (q5.1 22 7)], i_S X q5)) rfl ?_
              obtain rfl := Option.some.inj h
              exact i_rret rfl rfl
      · replace h := (if_neg c4).symm.trans h
        refine i_rbF (c := l2 < l1) (t := 19) (n := 17) rfl c4 ?_
        refine i_rs 1 (cf' := (18, [some (.ref 0), some (.int l1), some (.int l2)], [.int (-1 : Int32)], i_S X q1.2)) rfl ?_
        obtain rfl := Option.some.inj h
        exact i_rret rfl rfl
def r_isN (l0 : Int32) (M : I_M) : Option (Int32 × I_M) :=
  Option.bind (r_within (Int32.toInt64 l0) (1 : Int64) (2 : Int64) M) (fun q1 => i_zo q1.1 (some (q1.1, q1.2)))
theorem ok_r_isN {X : Nat × (Nat → Int32)} {d : Nat} {l0 : Int32} {M : I_M} {r : (Int32 × I_M)} (hd : 2 ≤ d) (h : r_isN l0 M = some r) : I_Ex d 213 [.int l0] (i_S X M) (some (.int r.1)) (i_S X r.2) := by
  obtain ⟨d, rfl⟩ : ∃ d1, d = d1 + 1 := ⟨d - 1, by omega⟩
  unfold r_isN at h
  refine i_ex (e := i_r213) (lv := [some (.int l0)]) rfl (Nat.le_of_ble_eq_true rfl) rfl ?_
  show I_RnE (I_Ex d) i_c213 (0, [some (.int l0)], [], i_S X M) _ _
  refine i_rs 4 (cf' := (6, [some (.int l0)], [.long (2 : Int64), .long (1 : Int64), .long (Int32.toInt64 l0)], i_S X M)) rfl ?_
  obtain ⟨q1, hq1, h⟩ := i_bdE h
  refine i_rcall (k := 175) (as := [.long (Int32.toInt64 l0), .long (1 : Int64), .long (2 : Int64)]) (cf1 := (9, [some (.int l0)], [], i_S X M)) (cf' := (9, [some (.int l0)], [.int q1.1], i_S X q1.2)) rfl (ok_r_within (by omega) hq1) rfl ?_
  obtain ⟨z2, h⟩ := i_zoE h
  obtain rfl := Option.some.inj h
  exact i_rretZ rfl z2 rfl
def r_humsAll_L21 (l1 : Int32) (l2 : Int32) (k87 : I_M → Option I_M) : Nat → Int32 → I_M → Option I_M
  | 0, _, _ => none
  | n + 1, l3, M =>
    Option.bind (r_cells M) (fun q4 => (if l3 < ((10 : Int32) * q4.1) then
        i_g (((3 : Int32) * l1) + (1 : Int32)) 30 (Option.bind (r_humOf (l3 / (10 : Int32)) (i_rem l3 (10 : Int32)) (q4.2.1 51 59) (l2 / (100 : Int32)) (i_rem l2 (100 : Int32)) (q4.2.1 61 (Int32.toNatClampNeg (((3 : Int32) * l1) + (1 : Int32)))) q4.2) (fun q7 => i_g (((250 : Int32) * l1) + l3) 2500 ((r_humsAll_L21 l1 l2 k87 n) (l3 + (1 : Int32)) (i_wI q7.2 62 (Int32.toNatClampNeg (((250 : Int32) * l1) + l3)) q7.1))))
      else
        k87  q4.2))
theorem ok_r_humsAll_L21 {X : Nat × (Nat → Int32)} {d : Nat} {l1 : Int32} {l2 : Int32} {k87 : I_M → Option I_M} (hd : 68 ≤ d + 1) (hk87 : ∀ (M : I_M) (r : I_M), k87 M = some r → I_RnE (I_Ex d) i_c215 (87, [some (.ref 50), some (.int l1), none, none], [], i_S X M) none (i_S X r)) : ∀ (n : Nat) (l3 : Int32) (M : I_M) (r : I_M), r_humsAll_L21 l1 l2 k87 n l3 M = some r → I_RnE (I_Ex d) i_c215 (21, [some (.ref 50), some (.int l1), some (.int l2), some (.int l3)], [], i_S X M) none (i_S X r) := by
  intro n
  induction n with
  | zero => intro _ M r h; cases h
  | succ n hself =>
    intro l3 M r h
    rw [r_humsAll_L21] at h
    refine i_rs 3 (cf' := (25, [some (.ref 50), some (.int l1), some (.int l2), some (.int l3)], [.ref 50, .int (10 : Int32), .int l3], i_S X M)) rfl ?_
    obtain ⟨q4, hq4, h⟩ := i_bdE h
    refine i_rcall (k := 178) (as := [.ref 50]) (cf1 := (28, [some (.ref 50), some (.int l1), some (.int l2), some (.int l3)], [.int (10 : Int32), .int l3], i_S X M)) (cf' := (28, [some (.ref 50), some (.int l1), some (.int l2), some (.int l3)], [.int q4.1, .int (10 : Int32), .int l3], i_S X q4.2)) rfl (ok_r_cells (by omega) hq4) rfl ?_
    refine i_rs 1 (cf' := (29, [some (.ref 50), some (.int l1), some (.int l2), some (.int l3)], [.int ((10 : Int32) * q4.1), .int l3], i_S X q4.2)) rfl ?_
    by_cases c5 : l3 < ((10 : Int32) * q4.1)
    · replace h := (if_pos c5).symm.trans h
      refine i_rbT (c := l3 < ((10 : Int32) * q4.1)) (t := 32) (n := 87) rfl c5 ?_
      refine i_rs 10 (cf' := (47, [some (.ref 50), some (.int l1), some (.int l2), some (.int l3)], [.int (10 : Int32), .int l3, .ref 50, .int (((250 : Int32) * l1) + l3), .ref 62], i_S X q4.2)) rfl ?_
      refine i_rdiv (cf' := (48, [some (.ref 50), some (.int l1), some (.int l2), some (.int l3)], [.int (l3 / (10 : Int32)), .ref 50, .int (((250 : Int32) * l1) + l3), .ref 62], i_S X q4.2)) rfl (by decide) rfl ?_
      refine i_rs 2 (cf' := (51, [some (.ref 50), some (.int l1), some (.int l2), some (.int l3)], [.int (10 : Int32), .int l3, .int (l3 / (10 : Int32)), .ref 50, .int (((250 : Int32) * l1) + l3), .ref 62], i_S X q4.2)) rfl ?_
      refine i_rrem (cf' := (52, [some (.ref 50), some (.int l1), some (.int l2), some (.int l3)], [.int (i_rem l3 (10 : Int32)), .int (l3 / (10 : Int32)), .ref 50, .int (((250 : Int32) * l1) + l3), .ref 62], i_S X q4.2)) rfl (by decide) rfl ?_
      refine i_rs 3 (cf' := (58, [some (.ref 50), some (.int l1), some (.int l2), some (.int l3)], [.int (59 : Int32), .ref 51, .int (i_rem l3 (10 : Int32)), .int (l3 / (10 : Int32)), .ref 50, .int (((250 : Int32) * l1) + l3), .ref 62], i_S X q4.2)) rfl ?_
      refine i_riald (n := 60) (cf' := (59, [some (.ref 50), some (.int l1), some (.int l2), some (.int l3)], [.int (q4.2.1 51 59), .int (i_rem l3 (10 : Int32)), .int (l3 / (10 : Int32)), .ref 50, .int (((250 : Int32) * l1) + l3), .ref 62], i_S X q4.2)) rfl rfl (by decide) (by decide) rfl ?_
      refine i_rs 2 (cf' := (62, [some (.ref 50), some (.int l1), some (.int l2), some (.int l3)], [.int (100 : Int32), .int l2, .int (q4.2.1 51 59), .int (i_rem l3 (10 : Int32)), .int (l3 / (10 : Int32)), .ref 50, .int (((250 : Int32) * l1) + l3), .ref 62], i_S X q4.2)) rfl ?_
      refine i_rdiv (cf' := (63, [some (.ref 50), some (.int l1), some (.int l2), some (.int l3)], [.int (l2 / (100 : Int32)), .int (q4.2.1 51 59), .int (i_rem l3 (10 : Int32)), .int (l3 / (10 : Int32)), .ref 50, .int (((250 : Int32) * l1) + l3), .ref 62], i_S X q4.2)) rfl (by decide) rfl ?_
      refine i_rs 2 (cf' := (66, [some (.ref 50), some (.int l1), some (.int l2), some (.int l3)], [.int (100 : Int32), .int l2, .int (l2 / (100 : Int32)), .int (q4.2.1 51 59), .int (i_rem l3 (10 : Int32)), .int (l3 / (10 : Int32)), .ref 50, .int (((250 : Int32) * l1) + l3), .ref 62], i_S X q4.2)) rfl ?_
      refine i_rrem (cf' := (67, [some (.ref 50), some (.int l1), some (.int l2), some (.int l3)], [.int (i_rem l2 (100 : Int32)), .int (l2 / (100 : Int32)), .int (q4.2.1 51 59), .int (i_rem l3 (10 : Int32)), .int (l3 / (10 : Int32)), .ref 50, .int (((250 : Int32) * l1) + l3), .ref 62], i_S X q4.2)) rfl (by decide) rfl ?_
      refine i_rs 7 (cf' := (76, [some (.ref 50), some (.int l1), some (.int l2), some (.int l3)], [.int (((3 : Int32) * l1) + (1 : Int32)), .ref 61, .int (i_rem l2 (100 : Int32)), .int (l2 / (100 : Int32)), .int (q4.2.1 51 59), .int (i_rem l3 (10 : Int32)), .int (l3 / (10 : Int32)), .ref 50, .int (((250 : Int32) * l1) + l3), .ref 62], i_S X q4.2)) rfl ?_
      obtain ⟨g6, h⟩ := i_gE h
      refine i_riald (n := 30) (cf' := (77, [some (.ref 50), some (.int l1), some (.int l2), some (.int l3)], [.int (q4.2.1 61 (Int32.toNatClampNeg (((3 : Int32) * l1) + (1 : Int32)))), .int (i_rem l2 (100 : Int32)), .int (l2 / (100 : Int32)), .int (q4.2.1 51 59), .int (i_rem l3 (10 : Int32)), .int (l3 / (10 : Int32)), .ref 50, .int (((250 : Int32) * l1) + l3), .ref 62], i_S X q4.2)) rfl rfl (by decide) g6 rfl ?_
      obtain ⟨q7, hq7, h⟩ := i_bdE h
      refine i_rcall (k := 205) (as := [.ref 50, .int (l3 / (10 : Int32)), .int (i_rem l3 (10 : Int32)), .int (q4.2.1 51 59), .int (l2 / (100 : Int32)), .int (i_rem l2 (100 : Int32)), .int (q4.2.1 61 (Int32.toNatClampNeg (((3 : Int32) * l1) + (1 : Int32))))]) (cf1 := (80, [some (.ref 50), some (.int l1), some (.int l2), some (.int l3)], [.int (((250 : Int32) * l1) + l3), .ref 62], i_S X q4.2)) (cf' := (80, [some (.ref 50), some (.int l1), some (.int l2), some (.int l3)], [.int q7.1, .int (((250 : Int32) * l1) + l3), .ref 62], i_S X q7.2)) rfl (ok_r_humOf (by omega) hq7) rfl ?_
      obtain ⟨g8, h⟩ := i_gE h
      refine i_riast (n := 2500) (cf' := (81, [some (.ref 50), some (.int l1), some (.int l2), some (.int l3)], [], i_S X (i_wI q7.2 62 (Int32.toNatClampNeg (((250 : Int32) * l1) + l3)) q7.1))) rfl rfl (Or.inl rfl) g8 rfl ?_
      refine i_rs 2 (cf' := (21, [some (.ref 50), some (.int l1), some (.int l2), some (.int (l3 + (1 : Int32)))], [], i_S X (i_wI q7.2 62 (Int32.toNatClampNeg (((250 : Int32) * l1) + l3)) q7.1))) rfl ?_
      refine i_fg (lv' := [some (.ref 50), some (.int l1), some (.int l2), some (.int (l3 + (1 : Int32)))]) (And.intro rfl (And.intro rfl (And.intro rfl (And.intro rfl True.intro)))) ?_
      exact hself (l3 + (1 : Int32)) (i_wI q7.2 62 (Int32.toNatClampNeg (((250 : Int32) * l1) + l3)) q7.1) _ h
    · replace h := (if_neg c5).symm.trans h
      refine i_rbF (c := l3 < ((10 : Int32) * q4.1)) (t := 32) (n := 87) rfl c5 ?_
      refine i_fg (lv' := [some (.ref 50), some (.int l1), none, none]) (And.intro rfl (And.intro rfl True.intro)) ?_
      exact hk87  q4.2 _ h
def r_humsAll_L2 : Nat → Int32 → I_M → Option I_M
  | 0, _, _ => none
  | n + 1, l1, M =>
    (if l1 < (M.1 50 24) then
        i_g ((3 : Int32) * l1) 30 (r_humsAll_L21 l1 (M.1 61 (Int32.toNatClampNeg ((3 : Int32) * l1))) (fun M3 =>
            (r_humsAll_L2 n) (l1 + (1 : Int32)) M3) i_F (0 : Int32) M)
      else
        some M)
theorem ok_r_humsAll_L2 {X : Nat × (Nat → Int32)} {d : Nat} (hd : 68 ≤ d + 1) : ∀ (n : Nat) (l1 : Int32) (M : I_M) (r : I_M), r_humsAll_L2 n l1 M = some r → I_RnE (I_Ex d) i_c215 (2, [some (.ref 50), some (.int l1), none, none], [], i_S X M) none (i_S X r) := by
  intro n
  induction n with
  | zero => intro _ M r h; cases h
  | succ n hself =>
    intro l1 M r h
    rw [r_humsAll_L2] at h
    refine i_rs 3 (cf' := (7, [some (.ref 50), some (.int l1), none, none], [.int (M.1 50 24), .int l1], i_S X M)) rfl ?_
    by_cases c1 : l1 < (M.1 50 24)
    · replace h := (if_pos c1).symm.trans h
      refine i_rbT (c := l1 < (M.1 50 24)) (t := 10) (n := 93) rfl c1 ?_
      refine i_rs 5 (cf' := (17, [some (.ref 50), some (.int l1), none, none], [.int ((3 : Int32) * l1), .ref 61], i_S X M)) rfl ?_
      obtain ⟨g2, h⟩ := i_gE h
      refine i_riald (n := 30) (cf' := (18, [some (.ref 50), some (.int l1), none, none], [.int (M.1 61 (Int32.toNatClampNeg ((3 : Int32) * l1)))], i_S X M)) rfl rfl (by decide) g2 rfl ?_
      refine i_rs 3 (cf' := (21, [some (.ref 50), some (.int l1), some (.int (M.1 61 (Int32.toNatClampNeg ((3 : Int32) * l1)))), some (.int (0 : Int32))], [], i_S X M)) rfl ?_
      refine i_fg (lv' := [some (.ref 50), some (.int l1), some (.int (M.1 61 (Int32.toNatClampNeg ((3 : Int32) * l1)))), some (.int (0 : Int32))]) (And.intro rfl (And.intro rfl (And.intro rfl (And.intro rfl True.intro)))) ?_
      refine ok_r_humsAll_L21 (by omega) (fun M3 r h => ?_) i_F (0 : Int32) M _ h
      refine i_rs 2 (cf' := (2, [some (.ref 50), some (.int (l1 + (1 : Int32))), none, none], [], i_S X M3)) rfl ?_
      refine i_fg (lv' := [some (.ref 50), some (.int (l1 + (1 : Int32))), none, none]) (And.intro rfl (And.intro rfl True.intro)) ?_
      exact hself (l1 + (1 : Int32)) M3 _ h
    · replace h := (if_neg c1).symm.trans h
      refine i_rbF (c := l1 < (M.1 50 24)) (t := 10) (n := 93) rfl c1 ?_
      obtain rfl := Option.some.inj h
      exact i_rret rfl rfl
def r_humsAll (M : I_M) : Option I_M :=
  r_humsAll_L2 i_F (0 : Int32) M
theorem ok_r_humsAll {X : Nat × (Nat → Int32)} {d : Nat} {M : I_M} {r : I_M} (hd : 68 ≤ d) (h : r_humsAll M = some r) : I_Ex d 215 [.ref 50] (i_S X M) none (i_S X r) := by
  obtain ⟨d, rfl⟩ : ∃ d1, d = d1 + 1 := ⟨d - 1, by omega⟩
  unfold r_humsAll at h
  refine i_ex (e := i_r215) (lv := [some (.ref 50), none, none, none]) rfl (Nat.le_of_ble_eq_true rfl) rfl ?_
  show I_RnE (I_Ex d) i_c215 (0, [some (.ref 50), none, none, none], [], i_S X M) _ _
  refine i_rs 2 (cf' := (2, [some (.ref 50), some (.int (0 : Int32)), none, none], [], i_S X M)) rfl ?_
  refine i_fg (lv' := [some (.ref 50), some (.int (0 : Int32)), none, none]) (And.intro rfl (And.intro rfl True.intro)) ?_
  refine ok_r_humsAll_L2 (by omega) i_F (0 : Int32) M _ h
def r_liesWith_B48 (self : Int32 → Int32 → I_M → Option (Int32 × I_M)) (l1 : Int32) (l2 : Int32) (l3 : Int32) (l4 : Int32) (s0 : Int32) (s1 : Int32) (M : I_M) : Option (Int32 × I_M) :=
  Option.bind (r_heardOf (s0 + s1) M) (fun q5 => i_g (((3 : Int32) * l4) + (2 : Int32)) 30 ((if q5.1 = (q5.2.1 61 (Int32.toNatClampNeg (((3 : Int32) * l4) + (2 : Int32)))) then
      self (l3 ||| (0 : Int32)) (l4 + (1 : Int32)) q5.2
    else
      self (l3 ||| ((1 : Int32) <<< (l4 &&& 31))) (l4 + (1 : Int32)) q5.2)))
theorem ok_r_liesWith_B48 {X : Nat × (Nat → Int32)} {d : Nat} {self : Int32 → Int32 → I_M → Option (Int32 × I_M)} {l1 : Int32} {l2 : Int32} {l3 : Int32} {l4 : Int32} {s0 : Int32} {s1 : Int32} {M : I_M} {r : (Int32 × I_M)} (hself : ∀ (m3 : Int32) (m4 : Int32) (M : I_M) (r : (Int32 × I_M)), self m3 m4 M = some r → I_RnE (I_Ex d) i_c217 (5, [some (.ref 50), some (.int l1), some (.int l2), some (.int m3), some (.int m4), none], [], i_S X M) (some (.int r.1)) (i_S X r.2)) (hd : 2 ≤ d + 1) (h : r_liesWith_B48 self l1 l2 l3 l4 s0 s1 M = some r) : I_RnE (I_Ex d) i_c217 (48, [some (.ref 50), some (.int l1), some (.int l2), some (.int l3), some (.int l4), none], [.int s1, .int s0], i_S X M) (some (.int r.1)) (i_S X r.2) := by
  unfold r_liesWith_B48 at h
  refine i_rs 5 (cf' := (55, [some (.ref 50), some (.int l1), some (.int l2), some (.int l3), some (.int l4), some (.int (s0 + s1))], [.int (s0 + s1), .ref 50, .int l3], i_S X M)) rfl ?_
  obtain ⟨q5, hq5, h⟩ := i_bdE h
  refine i_rcall (k := 209) (as := [.ref 50, .int (s0 + s1)]) (cf1 := (58, [some (.ref 50), some (.int l1), some (.int l2), some (.int l3), some (.int l4), some (.int (s0 + s1))], [.int l3], i_S X M)) (cf' := (58, [some (.ref 50), some (.int l1), some (.int l2), some (.int l3), some (.int l4), some (.int (s0 + s1))], [.int q5.1, .int l3], i_S X q5.2)) rfl (ok_r_heardOf (by omega) hq5) rfl ?_
  refine i_rs 7 (cf' := (68, [some (.ref 50), some (.int l1), some (.int l2), some (.int l3), some (.int l4), some (.int (s0 + s1))], [.int (((3 : Int32) * l4) + (2 : Int32)), .ref 61, .int q5.1, .int l3], i_S X q5.2)) rfl ?_
  obtain ⟨g6, h⟩ := i_gE h
  refine i_riald (n := 30) (cf' := (69, [some (.ref 50), some (.int l1), some (.int l2), some (.int l3), some (.int l4), some (.int (s0 + s1))], [.int (q5.2.1 61 (Int32.toNatClampNeg (((3 : Int32) * l4) + (2 : Int32)))), .int q5.1, .int l3], i_S X q5.2)) rfl rfl (by decide) g6 rfl ?_
  by_cases c7 : q5.1 = (q5.2.1 61 (Int32.toNatClampNeg (((3 : Int32) * l4) + (2 : Int32))))
  · replace h := (if_pos c7).symm.trans h
    refine i_rbT (c := q5.1 = (q5.2.1 61 (Int32.toNatClampNeg (((3 : Int32) * l4) + (2 : Int32))))) (t := 72) (n := 76) rfl c7 ?_
    refine i_rs 6 (cf' := (5, [some (.ref 50), some (.int l1), some (.int l2), some (.int (l3 ||| (0 : Int32))), some (.int (l4 + (1 : Int32))), some (.int (s0 + s1))], [], i_S X q5.2)) rfl ?_
    refine i_fg (lv' := [some (.ref 50), some (.int l1), some (.int l2), some (.int (l3 ||| (0 : Int32))), some (.int (l4 + (1 : Int32))), none]) (And.intro rfl (And.intro rfl (And.intro rfl (And.intro rfl (And.intro rfl True.intro))))) ?_
    exact hself (l3 ||| (0 : Int32)) (l4 + (1 : Int32)) q5.2 _ h
  · replace h := (if_neg c7).symm.trans h
    refine i_rbF (c := q5.1 = (q5.2.1 61 (Int32.toNatClampNeg (((3 : Int32) * l4) + (2 : Int32))))) (t := 72) (n := 76) rfl c7 ?_
    refine i_rs 7 (cf' := (5, [some (.ref 50), some (.int l1), some (.int l2), some (.int (l3 ||| ((1 : Int32) <<< (l4 &&& 31)))), some (.int (l4 + (1 : Int32))), some (.int (s0 + s1))], [], i_S X q5.2)) rfl ?_
    refine i_fg (lv' := [some (.ref 50), some (.int l1), some (.int l2), some (.int (l3 ||| ((1 : Int32) <<< (l4 &&& 31)))), some (.int (l4 + (1 : Int32))), none]) (And.intro rfl (And.intro rfl (And.intro rfl (And.intro rfl (And.intro rfl True.intro))))) ?_
    exact hself (l3 ||| ((1 : Int32) <<< (l4 &&& 31))) (l4 + (1 : Int32)) q5.2 _ h
def r_liesWith_L5 (l1 : Int32) (l2 : Int32) : Nat → Int32 → Int32 → I_M → Option (Int32 × I_M)
  | 0, _, _, _ => none
  | n + 1, l3, l4, M =>
    (if l4 < (M.1 50 24) then
        i_g (((250 : Int32) * l4) + l1) 2500 ((if l2 < (0 : Int32) then
          r_liesWith_B48 ((r_liesWith_L5 l1 l2 n)) l1 l2 l3 l4 (M.1 62 (Int32.toNatClampNeg (((250 : Int32) * l4) + l1))) (0 : Int32) M
        else
          i_g (((250 : Int32) * l4) + l2) 2500 (r_liesWith_B48 ((r_liesWith_L5 l1 l2 n)) l1 l2 l3 l4 (M.1 62 (Int32.toNatClampNeg (((250 : Int32) * l4) + l1))) (M.1 62 (Int32.toNatClampNeg (((250 : Int32) * l4) + l2))) M)))
      else
        some (l3, M))
theorem ok_r_liesWith_L5 {X : Nat × (Nat → Int32)} {d : Nat} {l1 : Int32} {l2 : Int32} (hd : 2 ≤ d + 1) : ∀ (n : Nat) (l3 : Int32) (l4 : Int32) (M : I_M) (r : (Int32 × I_M)), r_liesWith_L5 l1 l2 n l3 l4 M = some r → I_RnE (I_Ex d) i_c217 (5, [some (.ref 50), some (.int l1), some (.int l2), some (.int l3), some (.int l4), none], [], i_S X M) (some (.int r.1)) (i_S X r.2) := by
  intro n
  induction n with
  | zero => intro _ _ M r h; cases h
  | succ n hself =>
    intro l3 l4 M r h
    rw [r_liesWith_L5] at h
    refine i_rs 3 (cf' := (11, [some (.ref 50), some (.int l1), some (.int l2), some (.int l3), some (.int l4), none], [.int (M.1 50 24), .int l4], i_S X M)) rfl ?_
    by_cases c1 : l4 < (M.1 50 24)
    · replace h := (if_pos c1).symm.trans h
      refine i_rbT (c := l4 < (M.1 50 24)) (t := 14) (n := 88) rfl c1 ?_
      refine i_rs 7 (cf' := (26, [some (.ref 50), some (.int l1), some (.int l2), some (.int l3), some (.int l4), none], [.int (((250 : Int32) * l4) + l1), .ref 62], i_S X M)) rfl ?_
      obtain ⟨g2, h⟩ := i_gE h
      refine i_riald (n := 2500) (cf' := (27, [some (.ref 50), some (.int l1), some (.int l2), some (.int l3), some (.int l4), none], [.int (M.1 62 (Int32.toNatClampNeg (((250 : Int32) * l4) + l1)))], i_S X M)) rfl rfl (by decide) g2 rfl ?_
      refine i_rs 1 (cf' := (28, [some (.ref 50), some (.int l1), some (.int l2), some (.int l3), some (.int l4), none], [.int l2, .int (M.1 62 (Int32.toNatClampNeg (((250 : Int32) * l4) + l1)))], i_S X M)) rfl ?_
      by_cases c3 : l2 < (0 : Int32)
      · replace h := (if_pos c3).symm.trans h
        refine i_rbT (c := l2 < (0 : Int32)) (t := 31) (n := 35) rfl c3 ?_
        refine i_rs 2 (cf' := (48, [some (.ref 50), some (.int l1), some (.int l2), some (.int l3), some (.int l4), none], [.int (0 : Int32), .int (M.1 62 (Int32.toNatClampNeg (((250 : Int32) * l4) + l1)))], i_S X M)) rfl ?_
        refine i_fg (lv' := [some (.ref 50), some (.int l1), some (.int l2), some (.int l3), some (.int l4), none]) (And.intro rfl (And.intro rfl (And.intro rfl (And.intro rfl (And.intro rfl True.intro))))) ?_
        exact ok_r_liesWith_B48 hself (by omega) h
      · replace h := (if_neg c3).symm.trans h
        refine i_rbF (c := l2 < (0 : Int32)) (t := 31) (n := 35) rfl c3 ?_
        refine i_rs 7 (cf' := (47, [some (.ref 50), some (.int l1), some (.int l2), some (.int l3), some (.int l4), none], [.int (((250 : Int32) * l4) + l2), .ref 62, .int (M.1 62 (Int32.toNatClampNeg (((250 : Int32) * l4) + l1)))], i_S X M)) rfl ?_
        obtain ⟨g4, h⟩ := i_gE h
        refine i_riald (n := 2500) (cf' := (48, [some (.ref 50), some (.int l1), some (.int l2), some (.int l3), some (.int l4), none], [.int (M.1 62 (Int32.toNatClampNeg (((250 : Int32) * l4) + l2))), .int (M.1 62 (Int32.toNatClampNeg (((250 : Int32) * l4) + l1)))], i_S X M)) rfl rfl (by decide) g4 rfl ?_
        refine i_fg (lv' := [some (.ref 50), some (.int l1), some (.int l2), some (.int l3), some (.int l4), none]) (And.intro rfl (And.intro rfl (And.intro rfl (And.intro rfl (And.intro rfl True.intro))))) ?_
        exact ok_r_liesWith_B48 hself (by omega) h
    · replace h := (if_neg c1).symm.trans h
      refine i_rbF (c := l4 < (M.1 50 24)) (t := 14) (n := 88) rfl c1 ?_
      refine i_rs 1 (cf' := (89, [some (.ref 50), some (.int l1), some (.int l2), some (.int l3), some (.int l4), none], [.int l3], i_S X M)) rfl ?_
      obtain rfl := Option.some.inj h
      exact i_rret rfl rfl
def r_liesWith (l1 : Int32) (l2 : Int32) (M : I_M) : Option (Int32 × I_M) :=
  r_liesWith_L5 l1 l2 i_F (0 : Int32) (0 : Int32) M
theorem ok_r_liesWith {X : Nat × (Nat → Int32)} {d : Nat} {l1 : Int32} {l2 : Int32} {M : I_M} {r : (Int32 × I_M)} (hd : 2 ≤ d) (h : r_liesWith l1 l2 M = some r) : I_Ex d 217 [.ref 50, .int l1, .int l2] (i_S X M) (some (.int r.1)) (i_S X r.2) := by
  obtain ⟨d, rfl⟩ : ∃ d1, d = d1 + 1 := ⟨d - 1, by omega⟩
  unfold r_liesWith at h
  refine i_ex (e := i_r217) (lv := [some (.ref 50), some (.int l1), some (.int l2), none, none, none]) rfl (Nat.le_of_ble_eq_true rfl) rfl ?_
  show I_RnE (I_Ex d) i_c217 (0, [some (.ref 50), some (.int l1), some (.int l2), none, none, none], [], i_S X M) _ _
  refine i_rs 4 (cf' := (5, [some (.ref 50), some (.int l1), some (.int l2), some (.int (0 : Int32)), some (.int (0 : Int32)), none], [], i_S X M)) rfl ?_
  refine i_fg (lv' := [some (.ref 50), some (.int l1), some (.int l2), some (.int (0 : Int32)), some (.int (0 : Int32)), none]) (And.intro rfl (And.intro rfl (And.intro rfl (And.intro rfl (And.intro rfl True.intro))))) ?_
  refine ok_r_liesWith_L5 (by omega) i_F (0 : Int32) (0 : Int32) M _ h
def r_bitsOf_L4 : Nat → Int32 → Int32 → I_M → Option (Int32 × I_M)
  | 0, _, _, _ => none
  | n + 1, l1, l2, M =>
    (if l2 = (0 : Int32) then
        some (l1, M)
      else
        (r_bitsOf_L4 n) (l1 + (1 : Int32)) (l2 &&& (l2 - (1 : Int32))) M)
theorem ok_r_bitsOf_L4 {X : Nat × (Nat → Int32)} {d : Nat} (hd : 1 ≤ d + 1) : ∀ (n : Nat) (l1 : Int32) (l2 : Int32) (M : I_M) (r : (Int32 × I_M)), r_bitsOf_L4 n l1 l2 M = some r → I_RnE (I_Ex d) i_c218 (4, [none, some (.int l1), some (.int l2)], [], i_S X M) (some (.int r.1)) (i_S X r.2) := by
  intro n
  induction n with
  | zero => intro _ _ M r h; cases h
  | succ n hself =>
    intro l1 l2 M r h
    rw [r_bitsOf_L4] at h
    refine i_rs 1 (cf' := (5, [none, some (.int l1), some (.int l2)], [.int l2], i_S X M)) rfl ?_
    by_cases c1 : l2 = (0 : Int32)
    · replace h := (if_pos c1).symm.trans h
      refine i_rbT (c := l2 = (0 : Int32)) (t := 20) (n := 8) rfl c1 ?_
      refine i_rs 1 (cf' := (21, [none, some (.int l1), some (.int l2)], [.int l1], i_S X M)) rfl ?_
      obtain rfl := Option.some.inj h
      exact i_rret rfl rfl
    · replace h := (if_neg c1).symm.trans h
      refine i_rbF (c := l2 = (0 : Int32)) (t := 20) (n := 8) rfl c1 ?_
      refine i_rs 8 (cf' := (4, [none, some (.int (l1 + (1 : Int32))), some (.int (l2 &&& (l2 - (1 : Int32))))], [], i_S X M)) rfl ?_
      refine i_fg (lv' := [none, some (.int (l1 + (1 : Int32))), some (.int (l2 &&& (l2 - (1 : Int32))))]) (And.intro rfl (And.intro rfl True.intro)) ?_
      exact hself (l1 + (1 : Int32)) (l2 &&& (l2 - (1 : Int32))) M _ h
def r_bitsOf (l0 : Int32) (M : I_M) : Option (Int32 × I_M) :=
  r_bitsOf_L4 i_F (0 : Int32) l0 M
theorem ok_r_bitsOf {X : Nat × (Nat → Int32)} {d : Nat} {l0 : Int32} {M : I_M} {r : (Int32 × I_M)} (hd : 1 ≤ d) (h : r_bitsOf l0 M = some r) : I_Ex d 218 [.int l0] (i_S X M) (some (.int r.1)) (i_S X r.2) := by
  obtain ⟨d, rfl⟩ : ∃ d1, d = d1 + 1 := ⟨d - 1, by omega⟩
  unfold r_bitsOf at h
  refine i_ex (e := i_r218) (lv := [some (.int l0), none, none]) rfl (Nat.le_of_ble_eq_true rfl) rfl ?_
  show I_RnE (I_Ex d) i_c218 (0, [some (.int l0), none, none], [], i_S X M) _ _
  refine i_rs 4 (cf' := (4, [some (.int l0), some (.int (0 : Int32)), some (.int l0)], [], i_S X M)) rfl ?_
  refine i_fg (lv' := [none, some (.int (0 : Int32)), some (.int l0)]) (And.intro rfl (And.intro rfl True.intro)) ?_
  refine ok_r_bitsOf_L4 (by omega) i_F (0 : Int32) l0 M _ h
def r_counts_B132 (l1 : Int32) (l2 : Int32) (l5 : Int32) (M : I_M) : Option I_M :=
  i_g (l1 / (10 : Int32)) 25 ((if l2 < (0 : Int32) then
      some (i_wI (i_wI (i_wI (i_wI M 50 27 ((M.1 50 27) + (1 : Int32))) 50 30 ((M.1 50 30) &&& l5)) 50 31 ((M.1 50 31) ||| l5)) 63 (Int32.toNatClampNeg (l1 / (10 : Int32))) ((M.1 63 (Int32.toNatClampNeg (l1 / (10 : Int32)))) + (1 : Int32)))
    else
      i_g (l2 / (10 : Int32)) 25 (some (i_wI (i_wI (i_wI (i_wI (i_wI M 50 27 ((M.1 50 27) + (1 : Int32))) 50 30 ((M.1 50 30) &&& l5)) 50 31 ((M.1 50 31) ||| l5)) 63 (Int32.toNatClampNeg (l1 / (10 : Int32))) ((M.1 63 (Int32.toNatClampNeg (l1 / (10 : Int32)))) + (1 : Int32))) 63 (Int32.toNatClampNeg (l2 / (10 : Int32))) (((i_wI (i_wI (i_wI (i_wI M 50 27 ((M.1 50 27) + (1 : Int32))) 50 30 ((M.1 50 30) &&& l5)) 50 31 ((M.1 50 31) ||| l5)) 63 (Int32.toNatClampNeg (l1 / (10 : Int32))) ((M.1 63 (Int32.toNatClampNeg (l1 / (10 : Int32)))) + (1 : Int32))).1 63 (Int32.toNatClampNeg (l2 / (10 : Int32)))) + (1 : Int32))))))
theorem ok_r_counts_B132 {X : Nat × (Nat → Int32)} {d : Nat} {l1 : Int32} {l2 : Int32} {l5 : Int32} {M : I_M} {r : I_M} (hd : 3 ≤ d + 1) (h : r_counts_B132 l1 l2 l5 M = some r) : I_RnE (I_Ex d) i_c216 (132, [some (.ref 50), some (.int l1), some (.int l2), none, none, some (.int l5)], [], i_S X M) none (i_S X r) := by
  unfold r_counts_B132 at h
  refine i_rs 22 (cf' := (171, [some (.ref 50), some (.int l1), some (.int l2), none, none, some (.int l5)], [.int (10 : Int32), .int l1, .ref 63], i_S X (i_wI (i_wI (i_wI M 50 27 ((M.1 50 27) + (1 : Int32))) 50 30 ((M.1 50 30) &&& l5)) 50 31 ((M.1 50 31) ||| l5)))) rfl ?_
  refine i_rdiv (cf' := (172, [some (.ref 50), some (.int l1), some (.int l2), none, none, some (.int l5)], [.int (l1 / (10 : Int32)), .ref 63], i_S X (i_wI (i_wI (i_wI M 50 27 ((M.1 50 27) + (1 : Int32))) 50 30 ((M.1 50 30) &&& l5)) 50 31 ((M.1 50 31) ||| l5)))) rfl (by decide) rfl ?_
  refine i_rs 1 (cf' := (173, [some (.ref 50), some (.int l1), some (.int l2), none, none, some (.int l5)], [.int (l1 / (10 : Int32)), .ref 63, .int (l1 / (10 : Int32)), .ref 63], i_S X (i_wI (i_wI (i_wI M 50 27 ((M.1 50 27) + (1 : Int32))) 50 30 ((M.1 50 30) &&& l5)) 50 31 ((M.1 50 31) ||| l5)))) rfl ?_
  obtain ⟨g2, h⟩ := i_gE h
  refine i_riald (n := 25) (cf' := (174, [some (.ref 50), some (.int l1), some (.int l2), none, none, some (.int l5)], [.int (M.1 63 (Int32.toNatClampNeg (l1 / (10 : Int32)))), .int (l1 / (10 : Int32)), .ref 63], i_S X (i_wI (i_wI (i_wI M 50 27 ((M.1 50 27) + (1 : Int32))) 50 30 ((M.1 50 30) &&& l5)) 50 31 ((M.1 50 31) ||| l5)))) rfl rfl (by decide) g2 rfl ?_
  refine i_rs 2 (cf' := (176, [some (.ref 50), some (.int l1), some (.int l2), none, none, some (.int l5)], [.int ((M.1 63 (Int32.toNatClampNeg (l1 / (10 : Int32)))) + (1 : Int32)), .int (l1 / (10 : Int32)), .ref 63], i_S X (i_wI (i_wI (i_wI M 50 27 ((M.1 50 27) + (1 : Int32))) 50 30 ((M.1 50 30) &&& l5)) 50 31 ((M.1 50 31) ||| l5)))) rfl ?_
  refine i_riast (n := 25) (cf' := (177, [some (.ref 50), some (.int l1), some (.int l2), none, none, some (.int l5)], [], i_S X (i_wI (i_wI (i_wI (i_wI M 50 27 ((M.1 50 27) + (1 : Int32))) 50 30 ((M.1 50 30) &&& l5)) 50 31 ((M.1 50 31) ||| l5)) 63 (Int32.toNatClampNeg (l1 / (10 : Int32))) ((M.1 63 (Int32.toNatClampNeg (l1 / (10 : Int32)))) + (1 : Int32))))) rfl rfl (Or.inl rfl) g2 rfl ?_
  refine i_rs 1 (cf' := (178, [some (.ref 50), some (.int l1), some (.int l2), none, none, some (.int l5)], [.int l2], i_S X (i_wI (i_wI (i_wI (i_wI M 50 27 ((M.1 50 27) + (1 : Int32))) 50 30 ((M.1 50 30) &&& l5)) 50 31 ((M.1 50 31) ||| l5)) 63 (Int32.toNatClampNeg (l1 / (10 : Int32))) ((M.1 63 (Int32.toNatClampNeg (l1 / (10 : Int32)))) + (1 : Int32))))) rfl ?_
  by_cases c3 : l2 < (0 : Int32)
  · replace h := (if_pos c3).symm.trans h
    refine i_rbT (c := l2 < (0 : Int32)) (t := 194) (n := 181) rfl c3 ?_
    obtain rfl := Option.some.inj h
    exact i_rret rfl rfl
  · replace h := (if_neg c3).symm.trans h
    refine i_rbF (c := l2 < (0 : Int32)) (t := 194) (n := 181) rfl c3 ?_
    refine i_rs 4 (cf' := (188, [some (.ref 50), some (.int l1), some (.int l2), none, none, some (.int l5)], [.int (10 : Int32), .int l2, .ref 63], i_S X (i_wI (i_wI (i_wI (i_wI M 50 27 ((M.1 50 27) + (1 : Int32))) 50 30 ((M.1 50 30) &&& l5)) 50 31 ((M.1 50 31) ||| l5)) 63 (Int32.toNatClampNeg (l1 / (10 : Int32))) ((M.1 63 (Int32.toNatClampNeg (l1 / (10 : Int32)))) + (1 : Int32))))) rfl ?_
    refine i_rdiv (cf' := (189, [some (.ref 50), some (.int l1), some (.int l2), none, none, some (.int l5)], [.int (l2 / (10 : Int32)), .ref 63], i_S X (i_wI (i_wI (i_wI (i_wI M 50 27 ((M.1 50 27) + (1 : Int32))) 50 30 ((M.1 50 30) &&& l5)) 50 31 ((M.1 50 31) ||| l5)) 63 (Int32.toNatClampNeg (l1 / (10 : Int32))) ((M.1 63 (Int32.toNatClampNeg (l1 / (10 : Int32)))) + (1 : Int32))))) rfl (by decide) rfl ?_
    refine i_rs 1 (cf' := (190, [some (.ref 50), some (.int l1), some (.int l2), none, none, some (.int l5)], [.int (l2 / (10 : Int32)), .ref 63, .int (l2 / (10 : Int32)), .ref 63], i_S X (i_wI (i_wI (i_wI (i_wI M 50 27 ((M.1 50 27) + (1 : Int32))) 50 30 ((M.1 50 30) &&& l5)) 50 31 ((M.1 50 31) ||| l5)) 63 (Int32.toNatClampNeg (l1 / (10 : Int32))) ((M.1 63 (Int32.toNatClampNeg (l1 / (10 : Int32)))) + (1 : Int32))))) rfl ?_
    obtain ⟨g4, h⟩ := i_gE h
    refine i_riald (n := 25) (cf' := (191, [some (.ref 50), some (.int l1), some (.int l2), none, none, some (.int l5)], [.int ((i_wI (i_wI (i_wI (i_wI M 50 27 ((M.1 50 27) + (1 : Int32))) 50 30 ((M.1 50 30) &&& l5)) 50 31 ((M.1 50 31) ||| l5)) 63 (Int32.toNatClampNeg (l1 / (10 : Int32))) ((M.1 63 (Int32.toNatClampNeg (l1 / (10 : Int32)))) + (1 : Int32))).1 63 (Int32.toNatClampNeg (l2 / (10 : Int32)))), .int (l2 / (10 : Int32)), .ref 63], i_S X (i_wI (i_wI (i_wI (i_wI M 50 27 ((M.1 50 27) + (1 : Int32))) 50 30 ((M.1 50 30) &&& l5)) 50 31 ((M.1 50 31) ||| l5)) 63 (Int32.toNatClampNeg (l1 / (10 : Int32))) ((M.1 63 (Int32.toNatClampNeg (l1 / (10 : Int32)))) + (1 : Int32))))) rfl rfl (by decide) g4 rfl ?_
    refine i_rs 2 (cf' := (193, [some (.ref 50), some (.int l1), some (.int l2), none, none, some (.int l5)], [.int (((i_wI (i_wI (i_wI (i_wI M 50 27 ((M.1 50 27) + (1 : Int32))) 50 30 ((M.1 50 30) &&& l5)) 50 31 ((M.1 50 31) ||| l5)) 63 (Int32.toNatClampNeg (l1 / (10 : Int32))) ((M.1 63 (Int32.toNatClampNeg (l1 / (10 : Int32)))) + (1 : Int32))).1 63 (Int32.toNatClampNeg (l2 / (10 : Int32)))) + (1 : Int32)), .int (l2 / (10 : Int32)), .ref 63], i_S X (i_wI (i_wI (i_wI (i_wI M 50 27 ((M.1 50 27) + (1 : Int32))) 50 30 ((M.1 50 30) &&& l5)) 50 31 ((M.1 50 31) ||| l5)) 63 (Int32.toNatClampNeg (l1 / (10 : Int32))) ((M.1 63 (Int32.toNatClampNeg (l1 / (10 : Int32)))) + (1 : Int32))))) rfl ?_
    refine i_riast (n := 25) (cf' := (194, [some (.ref 50), some (.int l1), some (.int l2), none, none, some (.int l5)], [], i_S X (i_wI (i_wI (i_wI (i_wI (i_wI M 50 27 ((M.1 50 27) + (1 : Int32))) 50 30 ((M.1 50 30) &&& l5)) 50 31 ((M.1 50 31) ||| l5)) 63 (Int32.toNatClampNeg (l1 / (10 : Int32))) ((M.1 63 (Int32.toNatClampNeg (l1 / (10 : Int32)))) + (1 : Int32))) 63 (Int32.toNatClampNeg (l2 / (10 : Int32))) (((i_wI (i_wI (i_wI (i_wI M 50 27 ((M.1 50 27) + (1 : Int32))) 50 30 ((M.1 50 30) &&& l5)) 50 31 ((M.1 50 31) ||| l5)) 63 (Int32.toNatClampNeg (l1 / (10 : Int32))) ((M.1 63 (Int32.toNatClampNeg (l1 / (10 : Int32)))) + (1 : Int32))).1 63 (Int32.toNatClampNeg (l2 / (10 : Int32)))) + (1 : Int32))))) rfl rfl (Or.inl rfl) g4 rfl ?_
    obtain rfl := Option.some.inj h
    exact i_rret rfl rfl
def r_counts_B106 (l1 : Int32) (l2 : Int32) (s0 : Int32) (s1 : Int32) (M : I_M) : Option I_M :=
  (if (M.1 50 27) = (0 : Int32) then
      r_counts_B132 l1 l2 (s0 ||| s1) (i_wI (i_wI (i_wI M 50 28 l1) 50 29 l2) 50 30 (s0 ||| s1))
    else
      r_counts_B132 l1 l2 (s0 ||| s1) M)
theorem ok_r_counts_B106 {X : Nat × (Nat → Int32)} {d : Nat} {l1 : Int32} {l2 : Int32} {s0 : Int32} {s1 : Int32} {M : I_M} {r : I_M} (hd : 3 ≤ d + 1) (h : r_counts_B106 l1 l2 s0 s1 M = some r) : I_RnE (I_Ex d) i_c216 (106, [some (.ref 50), some (.int l1), some (.int l2), none, none, none], [.int s1, .int s0], i_S X M) none (i_S X r) := by
  unfold r_counts_B106 at h
  refine i_rs 4 (cf' := (113, [some (.ref 50), some (.int l1), some (.int l2), none, none, some (.int (s0 ||| s1))], [.int (M.1 50 27)], i_S X M)) rfl ?_
  by_cases c1 : (M.1 50 27) = (0 : Int32)
  · replace h := (if_pos c1).symm.trans h
    refine i_rbT (c := (M.1 50 27) = (0 : Int32)) (t := 116) (n := 132) rfl c1 ?_
    refine i_rs 9 (cf' := (132, [some (.ref 50), some (.int l1), some (.int l2), none, none, some (.int (s0 ||| s1))], [], i_S X (i_wI (i_wI (i_wI M 50 28 l1) 50 29 l2) 50 30 (s0 ||| s1)))) rfl ?_
    refine i_fg (lv' := [some (.ref 50), some (.int l1), some (.int l2), none, none, some (.int (s0 ||| s1))]) (And.intro rfl (And.intro rfl (And.intro rfl (And.intro rfl True.intro)))) ?_
    exact ok_r_counts_B132 (by omega) h
  · replace h := (if_neg c1).symm.trans h
    refine i_rbF (c := (M.1 50 27) = (0 : Int32)) (t := 116) (n := 132) rfl c1 ?_
    refine i_fg (lv' := [some (.ref 50), some (.int l1), some (.int l2), none, none, some (.int (s0 ||| s1))]) (And.intro rfl (And.intro rfl (And.intro rfl (And.intro rfl True.intro)))) ?_
    exact ok_r_counts_B132 (by omega) h
def r_counts_B71 (l1 : Int32) (l2 : Int32) (l3 : Int32) (s0 : Int32) (M : I_M) : Option I_M :=
  (if (l3 &&& ((M.1 50 34) ^^^ (-1 : Int32))) = (0 : Int32) then
      (if l2 < (0 : Int32) then
        r_counts_B106 l1 l2 ((1 : Int32) <<< ((l1 / (10 : Int32)) &&& 31)) (0 : Int32) (i_wI M 50 33 s0)
      else
        r_counts_B106 l1 l2 ((1 : Int32) <<< ((l1 / (10 : Int32)) &&& 31)) ((1 : Int32) <<< ((l2 / (10 : Int32)) &&& 31)) (i_wI M 50 33 s0))
    else
      some (i_wI M 50 33 s0))
theorem ok_r_counts_B71 {X : Nat × (Nat → Int32)} {d : Nat} {l1 : Int32} {l2 : Int32} {l3 : Int32} {s0 : Int32} {M : I_M} {r : I_M} (hd : 3 ≤ d + 1) (h : r_counts_B71 l1 l2 l3 s0 M = some r) : I_RnE (I_Ex d) i_c216 (71, [some (.ref 50), some (.int l1), some (.int l2), some (.int l3), none, none], [.int s0, .ref 50], i_S X M) none (i_S X r) := by
  unfold r_counts_B71 at h
  refine i_rs 7 (cf' := (82, [some (.ref 50), some (.int l1), some (.int l2), some (.int l3), none, none], [.int (l3 &&& ((M.1 50 34) ^^^ (-1 : Int32)))], i_S X (i_wI M 50 33 s0))) rfl ?_
  by_cases c6 : (l3 &&& ((M.1 50 34) ^^^ (-1 : Int32))) = (0 : Int32)
  · replace h := (if_pos c6).symm.trans h
    refine i_rbT (c := (l3 &&& ((M.1 50 34) ^^^ (-1 : Int32))) = (0 : Int32)) (t := 86) (n := 85) rfl c6 ?_
    refine i_rs 3 (cf' := (90, [some (.ref 50), some (.int l1), some (.int l2), some (.int l3), none, none], [.int (10 : Int32), .int l1, .int (1 : Int32)], i_S X (i_wI M 50 33 s0))) rfl ?_
    refine i_rdiv (cf' := (91, [some (.ref 50), some (.int l1), some (.int l2), some (.int l3), none, none], [.int (l1 / (10 : Int32)), .int (1 : Int32)], i_S X (i_wI M 50 33 s0))) rfl (by decide) rfl ?_
    refine i_rs 2 (cf' := (93, [some (.ref 50), some (.int l1), some (.int l2), some (.int l3), none, none], [.int l2, .int ((1 : Int32) <<< ((l1 / (10 : Int32)) &&& 31))], i_S X (i_wI M 50 33 s0))) rfl ?_
    by_cases c7 : l2 < (0 : Int32)
    · replace h := (if_pos c7).symm.trans h
      refine i_rbT (c := l2 < (0 : Int32)) (t := 96) (n := 100) rfl c7 ?_
      refine i_rs 2 (cf' := (106, [some (.ref 50), some (.int l1), some (.int l2), some (.int l3), none, none], [.int (0 : Int32), .int ((1 : Int32) <<< ((l1 / (10 : Int32)) &&& 31))], i_S X (i_wI M 50 33 s0))) rfl ?_
      refine i_fg (lv' := [some (.ref 50), some (.int l1), some (.int l2), none, none, none]) (And.intro rfl (And.intro rfl (And.intro rfl True.intro))) ?_
      exact ok_r_counts_B106 (by omega) h
    · replace h := (if_neg c7).symm.trans h
      refine i_rbF (c := l2 < (0 : Int32)) (t := 96) (n := 100) rfl c7 ?_
      refine i_rs 3 (cf' := (104, [some (.ref 50), some (.int l1), some (.int l2), some (.int l3), none, none], [.int (10 : Int32), .int l2, .int (1 : Int32), .int ((1 : Int32) <<< ((l1 / (10 : Int32)) &&& 31))], i_S X (i_wI M 50 33 s0))) rfl ?_
      refine i_rdiv (cf' := (105, [some (.ref 50), some (.int l1), some (.int l2), some (.int l3), none, none], [.int (l2 / (10 : Int32)), .int (1 : Int32), .int ((1 : Int32) <<< ((l1 / (10 : Int32)) &&& 31))], i_S X (i_wI M 50 33 s0))) rfl (by decide) rfl ?_
      refine i_rs 1 (cf' := (106, [some (.ref 50), some (.int l1), some (.int l2), some (.int l3), none, none], [.int ((1 : Int32) <<< ((l2 / (10 : Int32)) &&& 31)), .int ((1 : Int32) <<< ((l1 / (10 : Int32)) &&& 31))], i_S X (i_wI M 50 33 s0))) rfl ?_
      refine i_fg (lv' := [some (.ref 50), some (.int l1), some (.int l2), none, none, none]) (And.intro rfl (And.intro rfl (And.intro rfl True.intro))) ?_
      exact ok_r_counts_B106 (by omega) h
  · replace h := (if_neg c6).symm.trans h
    refine i_rbF (c := (l3 &&& ((M.1 50 34) ^^^ (-1 : Int32))) = (0 : Int32)) (t := 86) (n := 85) rfl c6 ?_
    obtain rfl := Option.some.inj h
    exact i_rret rfl rfl
def r_counts_B55 (l1 : Int32) (l2 : Int32) (l3 : Int32) (s0 : Int32) (M : I_M) : Option I_M :=
  (if s0 = (0 : Int32) then
      r_counts_B71 l1 l2 l3 (M.1 50 33) M
    else
      r_counts_B71 l1 l2 l3 l3 M)
theorem ok_r_counts_B55 {X : Nat × (Nat → Int32)} {d : Nat} {l1 : Int32} {l2 : Int32} {l3 : Int32} {s0 : Int32} {M : I_M} {r : I_M} (hd : 3 ≤ d + 1) (h : r_counts_B55 l1 l2 l3 s0 M = some r) : I_RnE (I_Ex d) i_c216 (55, [some (.ref 50), some (.int l1), some (.int l2), some (.int l3), none, none], [.int s0], i_S X M) none (i_S X r) := by
  unfold r_counts_B55 at h
  refine i_rs 3 (cf' := (60, [some (.ref 50), some (.int l1), some (.int l2), some (.int l3), some (.int s0), none], [.int s0, .ref 50], i_S X M)) rfl ?_
  by_cases c5 : s0 = (0 : Int32)
  · replace h := (if_pos c5).symm.trans h
    refine i_rbT (c := s0 = (0 : Int32)) (t := 67) (n := 63) rfl c5 ?_
    refine i_rs 2 (cf' := (71, [some (.ref 50), some (.int l1), some (.int l2), some (.int l3), some (.int s0), none], [.int (M.1 50 33), .ref 50], i_S X M)) rfl ?_
    refine i_fg (lv' := [some (.ref 50), some (.int l1), some (.int l2), some (.int l3), none, none]) (And.intro rfl (And.intro rfl (And.intro rfl (And.intro rfl True.intro)))) ?_
    exact ok_r_counts_B71 (by omega) h
  · replace h := (if_neg c5).symm.trans h
    refine i_rbF (c := s0 = (0 : Int32)) (t := 67) (n := 63) rfl c5 ?_
    refine i_rs 2 (cf' := (71, [some (.ref 50), some (.int l1), some (.int l2), some (.int l3), some (.int s0), none], [.int l3, .ref 50], i_S X M)) rfl ?_
    refine i_fg (lv' := [some (.ref 50), some (.int l1), some (.int l2), some (.int l3), none, none]) (And.intro rfl (And.intro rfl (And.intro rfl (And.intro rfl True.intro)))) ?_
    exact ok_r_counts_B71 (by omega) h
def r_counts (l1 : Int32) (l2 : Int32) (M : I_M) : Option I_M :=
  Option.bind (r_liesWith l1 l2 M) (fun q8 => (if (q8.2.1 50 33) < (0 : Int32) then
      r_counts_B55 l1 l2 q8.1 (1 : Int32) q8.2
    else
      Option.bind (r_bitsOf q8.1 q8.2) (fun q10 => Option.bind (r_bitsOf (q10.2.1 50 33) q10.2) (fun q11 => (if q10.1 < q11.1 then
        r_counts_B55 l1 l2 q8.1 (1 : Int32) q11.2
      else
        Option.bind (r_bitsOf q8.1 q11.2) (fun q13 => Option.bind (r_bitsOf (q13.2.1 50 33) q13.2) (fun q14 => (if q13.1 = q14.1 then
          (if q8.1 < (q14.2.1 50 33) then
            r_counts_B55 l1 l2 q8.1 (1 : Int32) q14.2
          else
            r_counts_B55 l1 l2 q8.1 (0 : Int32) q14.2)
        else
          r_counts_B55 l1 l2 q8.1 (0 : Int32) q14.2))))))))
theorem ok_r_counts {X : Nat × (Nat → Int32)} {d : Nat} {l1 : Int32} {l2 : Int32} {M : I_M} {r : I_M} (hd : 3 ≤ d) (h : r_counts l1 l2 M = some r) : I_Ex d 216 [.ref 50, .int l1, .int l2] (i_S X M) none (i_S X r) := by
  obtain ⟨d, rfl⟩ : ∃ d1, d = d1 + 1 := ⟨d - 1, by omega⟩
  unfold r_counts at h
  refine i_ex (e := i_r216) (lv := [some (.ref 50), some (.int l1), some (.int l2), none, none, none]) rfl (Nat.le_of_ble_eq_true rfl) rfl ?_
  show I_RnE (I_Ex d) i_c216 (0, [some (.ref 50), some (.int l1), some (.int l2), none, none, none], [], i_S X M) _ _
  refine i_rs 3 (cf' := (3, [some (.ref 50), some (.int l1), some (.int l2), none, none, none], [.int l2, .int l1, .ref 50], i_S X M)) rfl ?_
  obtain ⟨q8, hq8, h⟩ := i_bdE h
  refine i_rcall (k := 217) (as := [.ref 50, .int l1, .int l2]) (cf1 := (6, [some (.ref 50), some (.int l1), some (.int l2), none, none, none], [], i_S X M)) (cf' := (6, [some (.ref 50), some (.int l1), some (.int l2), none, none, none], [.int q8.1], i_S X q8.2)) rfl (ok_r_liesWith (by omega) hq8) rfl ?_
  refine i_rs 3 (cf' := (11, [some (.ref 50), some (.int l1), some (.int l2), some (.int q8.1), none, none], [.int (q8.2.1 50 33)], i_S X q8.2)) rfl ?_
  by_cases c9 : (q8.2.1 50 33) < (0 : Int32)
  · replace h := (if_pos c9).symm.trans h
    refine i_rbT (c := (q8.2.1 50 33) < (0 : Int32)) (t := 50) (n := 14) rfl c9 ?_
    refine i_rs 2 (cf' := (55, [some (.ref 50), some (.int l1), some (.int l2), some (.int q8.1), none, none], [.int (1 : Int32)], i_S X q8.2)) rfl ?_
    refine i_fg (lv' := [some (.ref 50), some (.int l1), some (.int l2), some (.int q8.1), none, none]) (And.intro rfl (And.intro rfl (And.intro rfl (And.intro rfl True.intro)))) ?_
    exact ok_r_counts_B55 (by omega) h
  · replace h := (if_neg c9).symm.trans h
    refine i_rbF (c := (q8.2.1 50 33) < (0 : Int32)) (t := 50) (n := 14) rfl c9 ?_
    refine i_rs 1 (cf' := (15, [some (.ref 50), some (.int l1), some (.int l2), some (.int q8.1), none, none], [.int q8.1], i_S X q8.2)) rfl ?_
    obtain ⟨q10, hq10, h⟩ := i_bdE h
    refine i_rcall (k := 218) (as := [.int q8.1]) (cf1 := (18, [some (.ref 50), some (.int l1), some (.int l2), some (.int q8.1), none, none], [], i_S X q8.2)) (cf' := (18, [some (.ref 50), some (.int l1), some (.int l2), some (.int q8.1), none, none], [.int q10.1], i_S X q10.2)) rfl (ok_r_bitsOf (by omega) hq10) rfl ?_
    refine i_rs 2 (cf' := (22, [some (.ref 50), some (.int l1), some (.int l2), some (.int q8.1), none, none], [.int (q10.2.1 50 33), .int q10.1], i_S X q10.2)) rfl ?_
    obtain ⟨q11, hq11, h⟩ := i_bdE h
    refine i_rcall (k := 218) (as := [.int (q10.2.1 50 33)]) (cf1 := (25, [some (.ref 50), some (.int l1), some (.int l2), some (.int q8.1), none, none], [.int q10.1], i_S X q10.2)) (cf' := (25, [some (.ref 50), some (.int l1), some (.int l2), some (.int q8.1), none, none], [.int q11.1, .int q10.1], i_S X q11.2)) rfl (ok_r_bitsOf (by omega) hq11) rfl ?_
    by_cases c12 : q10.1 < q11.1
    · replace h := (if_pos c12).symm.trans h
      refine i_rbT (c := q10.1 < q11.1) (t := 50) (n := 28) rfl c12 ?_
      refine i_rs 2 (cf' := (55, [some (.ref 50), some (.int l1), some (.int l2), some (.int q8.1), none, none], [.int (1 : Int32)], i_S X q11.2)) rfl ?_
      refine i_fg (lv' := [some (.ref 50), some (.int l1), some (.int l2), some (.int q8.1), none, none]) (And.intro rfl (And.intro rfl (And.intro rfl (And.intro rfl True.intro)))) ?_
      exact ok_r_counts_B55 (by omega) h
    · replace h := (if_neg c12).symm.trans h
      refine i_rbF (c := q10.1 < q11.1) (t := 50) (n := 28) rfl c12 ?_
      refine i_rs 1 (cf' := (29, [some (.ref 50), some (.int l1), some (.int l2), some (.int q8.1), none, none], [.int q8.1], i_S X q11.2)) rfl ?_
      obtain ⟨q13, hq13, h⟩ := i_bdE h
      refine i_rcall (k := 218) (as := [.int q8.1]) (cf1 := (32, [some (.ref 50), some (.int l1), some (.int l2), some (.int q8.1), none, none], [], i_S X q11.2)) (cf' := (32, [some (.ref 50), some (.int l1), some (.int l2), some (.int q8.1), none, none], [.int q13.1], i_S X q13.2)) rfl (ok_r_bitsOf (by omega) hq13) rfl ?_
      refine i_rs 2 (cf' := (36, [some (.ref 50), some (.int l1), some (.int l2), some (.int q8.1), none, none], [.int (q13.2.1 50 33), .int q13.1], i_S X q13.2)) rfl ?_
      obtain ⟨q14, hq14, h⟩ := i_bdE h
      refine i_rcall (k := 218) (as := [.int (q13.2.1 50 33)]) (cf1 := (39, [some (.ref 50), some (.int l1), some (.int l2), some (.int q8.1), none, none], [.int q13.1], i_S X q13.2)) (cf' := (39, [some (.ref 50), some (.int l1), some (.int l2), some (.int q8.1), none, none], [.int q14.1, .int q13.1], i_S X q14.2)) rfl (ok_r_bitsOf (by omega) hq14) rfl ?_
      by_cases c15 : q13.1 = q14.1
      · replace h := (if_pos c15).symm.trans h
        refine i_rbT (c := q13.1 = q14.1) (t := 42) (n := 54) rfl c15 ?_
        refine i_rs 3 (cf' := (47, [some (.ref 50), some (.int l1), some (.int l2), some (.int q8.1), none, none], [.int (q14.2.1 50 33), .int q8.1], i_S X q14.2)) rfl ?_
        by_cases c16 : q8.1 < (q14.2.1 50 33)
        · replace h := (if_pos c16).symm.trans h
          refine i_rbT (c := q8.1 < (q14.2.1 50 33)) (t := 50) (n := 54) rfl c16 ?_
          refine i_rs 2 (cf' := (55, [some (.ref 50), some (.int l1), some (.int l2), some (.int q8.1), none, none], [.int (1 : Int32)], i_S X q14.2)) rfl ?_
          refine i_fg (lv' := [some (.ref 50), some (.int l1), some (.int l2), some (.int q8.1), none, none]) (And.intro rfl (And.intro rfl (And.intro rfl (And.intro rfl True.intro)))) ?_
          exact ok_r_counts_B55 (by omega) h
        · replace h := (if_neg c16).symm.trans h
          refine i_rbF (c := q8.1 < (q14.2.1 50 33)) (t := 50) (n := 54) rfl c16 ?_
          refine i_rs 1 (cf' := (55, [some (.ref 50), some (.int l1), some (.int l2), some (.int q8.1), none, none], [.int (0 : Int32)], i_S X q14.2)) rfl ?_
          refine i_fg (lv' := [some (.ref 50), some (.int l1), some (.int l2), some (.int q8.1), none, none]) (And.intro rfl (And.intro rfl (And.intro rfl (And.intro rfl True.intro)))) ?_
          exact ok_r_counts_B55 (by omega) h
      · replace h := (if_neg c15).symm.trans h
        refine i_rbF (c := q13.1 = q14.1) (t := 42) (n := 54) rfl c15 ?_
        refine i_rs 1 (cf' := (55, [some (.ref 50), some (.int l1), some (.int l2), some (.int q8.1), none, none], [.int (0 : Int32)], i_S X q14.2)) rfl ?_
        refine i_fg (lv' := [some (.ref 50), some (.int l1), some (.int l2), some (.int q8.1), none, none]) (And.intro rfl (And.intro rfl (And.intro rfl (And.intro rfl True.intro)))) ?_
        exact ok_r_counts_B55 (by omega) h
def r_goesThrough_L86 (l1 : Int32) (l3 : Int32) (k116 : I_M → Option I_M) : Nat → Int32 → I_M → Option I_M
  | 0, _, _ => none
  | n + 1, l4, M =>
    (if l1 = (2 : Int32) then
        Option.bind (r_cells M) (fun q6 => (if l4 < ((10 : Int32) * q6.1) then
          Option.bind (r_counts l3 l4 q6.2) (fun q8 => (r_goesThrough_L86 l1 l3 k116 n) (l4 + (1 : Int32)) q8)
        else
          k116  q6.2))
      else
        k116  M)
theorem ok_r_goesThrough_L86 {X : Nat × (Nat → Int32)} {d : Nat} {l1 : Int32} {l3 : Int32} {k116 : I_M → Option I_M} (hd : 69 ≤ d + 1) (hk116 : ∀ (M : I_M) (r : I_M), k116 M = some r → I_RnE (I_Ex d) i_c214 (116, [some (.ref 50), some (.int l1), none, some (.int l3), none], [], i_S X M) none (i_S X r)) : ∀ (n : Nat) (l4 : Int32) (M : I_M) (r : I_M), r_goesThrough_L86 l1 l3 k116 n l4 M = some r → I_RnE (I_Ex d) i_c214 (86, [some (.ref 50), some (.int l1), none, some (.int l3), some (.int l4)], [], i_S X M) none (i_S X r) := by
  intro n
  induction n with
  | zero => intro _ M r h; cases h
  | succ n hself =>
    intro l4 M r h
    rw [r_goesThrough_L86] at h
    refine i_rs 2 (cf' := (88, [some (.ref 50), some (.int l1), none, some (.int l3), some (.int l4)], [.int (2 : Int32), .int l1], i_S X M)) rfl ?_
    by_cases c5 : l1 = (2 : Int32)
    · replace h := (if_pos c5).symm.trans h
      refine i_rbT (c := l1 = (2 : Int32)) (t := 91) (n := 116) rfl c5 ?_
      refine i_rs 3 (cf' := (96, [some (.ref 50), some (.int l1), none, some (.int l3), some (.int l4)], [.ref 50, .int (10 : Int32), .int l4], i_S X M)) rfl ?_
      obtain ⟨q6, hq6, h⟩ := i_bdE h
      refine i_rcall (k := 178) (as := [.ref 50]) (cf1 := (99, [some (.ref 50), some (.int l1), none, some (.int l3), some (.int l4)], [.int (10 : Int32), .int l4], i_S X M)) (cf' := (99, [some (.ref 50), some (.int l1), none, some (.int l3), some (.int l4)], [.int q6.1, .int (10 : Int32), .int l4], i_S X q6.2)) rfl (ok_r_cells (by omega) hq6) rfl ?_
      refine i_rs 1 (cf' := (100, [some (.ref 50), some (.int l1), none, some (.int l3), some (.int l4)], [.int ((10 : Int32) * q6.1), .int l4], i_S X q6.2)) rfl ?_
      by_cases c7 : l4 < ((10 : Int32) * q6.1)
      · replace h := (if_pos c7).symm.trans h
        refine i_rbT (c := l4 < ((10 : Int32) * q6.1)) (t := 103) (n := 116) rfl c7 ?_
        refine i_rs 3 (cf' := (107, [some (.ref 50), some (.int l1), none, some (.int l3), some (.int l4)], [.int l4, .int l3, .ref 50], i_S X q6.2)) rfl ?_
        obtain ⟨q8, hq8, h⟩ := i_bdE h
        refine i_rcall (k := 216) (as := [.ref 50, .int l3, .int l4]) (cf1 := (110, [some (.ref 50), some (.int l1), none, some (.int l3), some (.int l4)], [], i_S X q6.2)) (cf' := (110, [some (.ref 50), some (.int l1), none, some (.int l3), some (.int l4)], [], i_S X q8)) rfl (ok_r_counts (by omega) hq8) rfl ?_
        refine i_rs 2 (cf' := (86, [some (.ref 50), some (.int l1), none, some (.int l3), some (.int (l4 + (1 : Int32)))], [], i_S X q8)) rfl ?_
        refine i_fg (lv' := [some (.ref 50), some (.int l1), none, some (.int l3), some (.int (l4 + (1 : Int32)))]) (And.intro rfl (And.intro rfl (And.intro rfl (And.intro rfl True.intro)))) ?_
        exact hself (l4 + (1 : Int32)) q8 _ h
      · replace h := (if_neg c7).symm.trans h
        refine i_rbF (c := l4 < ((10 : Int32) * q6.1)) (t := 103) (n := 116) rfl c7 ?_
        refine i_fg (lv' := [some (.ref 50), some (.int l1), none, some (.int l3), none]) (And.intro rfl (And.intro rfl (And.intro rfl True.intro))) ?_
        exact hk116  q6.2 _ h
    · replace h := (if_neg c5).symm.trans h
      refine i_rbF (c := l1 = (2 : Int32)) (t := 91) (n := 116) rfl c5 ?_
      refine i_fg (lv' := [some (.ref 50), some (.int l1), none, some (.int l3), none]) (And.intro rfl (And.intro rfl (And.intro rfl True.intro))) ?_
      exact hk116  M _ h
def r_goesThrough_B75 (self : Int32 → I_M → Option I_M) (l1 : Int32) (l3 : Int32) (M : I_M) : Option I_M :=
  r_goesThrough_L86 l1 l3 (fun M11 =>
        self (l3 + (1 : Int32)) M11) i_F ((10 : Int32) * ((l3 / (10 : Int32)) + (1 : Int32))) M
theorem ok_r_goesThrough_B75 {X : Nat × (Nat → Int32)} {d : Nat} {self : Int32 → I_M → Option I_M} {l1 : Int32} {l3 : Int32} {M : I_M} {r : I_M} (hself : ∀ (m3 : Int32) (M : I_M) (r : I_M), self m3 M = some r → I_RnE (I_Ex d) i_c214 (53, [some (.ref 50), some (.int l1), none, some (.int m3), none], [], i_S X M) none (i_S X r)) (hd : 69 ≤ d + 1) (h : r_goesThrough_B75 self l1 l3 M = some r) : I_RnE (I_Ex d) i_c214 (75, [some (.ref 50), some (.int l1), none, some (.int l3), none], [], i_S X M) none (i_S X r) := by
  unfold r_goesThrough_B75 at h
  refine i_rs 3 (cf' := (80, [some (.ref 50), some (.int l1), none, some (.int l3), none], [.int (10 : Int32), .int l3, .int (10 : Int32)], i_S X M)) rfl ?_
  refine i_rdiv (cf' := (81, [some (.ref 50), some (.int l1), none, some (.int l3), none], [.int (l3 / (10 : Int32)), .int (10 : Int32)], i_S X M)) rfl (by decide) rfl ?_
  refine i_rs 4 (cf' := (86, [some (.ref 50), some (.int l1), none, some (.int l3), some (.int ((10 : Int32) * ((l3 / (10 : Int32)) + (1 : Int32))))], [], i_S X M)) rfl ?_
  refine i_fg (lv' := [some (.ref 50), some (.int l1), none, some (.int l3), some (.int ((10 : Int32) * ((l3 / (10 : Int32)) + (1 : Int32))))]) (And.intro rfl (And.intro rfl (And.intro rfl (And.intro rfl True.intro)))) ?_
  refine ok_r_goesThrough_L86 (by omega) (fun M11 r h => ?_) i_F ((10 : Int32) * ((l3 / (10 : Int32)) + (1 : Int32))) M _ h
  refine i_rs 2 (cf' := (53, [some (.ref 50), some (.int l1), none, some (.int (l3 + (1 : Int32))), none], [], i_S X M11)) rfl ?_
  refine i_fg (lv' := [some (.ref 50), some (.int l1), none, some (.int (l3 + (1 : Int32))), none]) (And.intro rfl (And.intro rfl (And.intro rfl True.intro))) ?_
  exact hself (l3 + (1 : Int32)) M11 _ h
def r_goesThrough_L53 (l1 : Int32) : Nat → Int32 → I_M → Option I_M
  | 0, _, _ => none
  | n + 1, l3, M =>
    Option.bind (r_cells M) (fun q1 => (if l3 < ((10 : Int32) * q1.1) then
        (if l1 = (1 : Int32) then
          Option.bind (r_counts l3 (-1 : Int32) q1.2) (fun q4 => r_goesThrough_B75 ((r_goesThrough_L53 l1 n)) l1 l3 q4)
        else
          r_goesThrough_B75 ((r_goesThrough_L53 l1 n)) l1 l3 q1.2)
      else
        some q1.2))
theorem ok_r_goesThrough_L53 {X : Nat × (Nat → Int32)} {d : Nat} {l1 : Int32} (hd : 69 ≤ d + 1) : ∀ (n : Nat) (l3 : Int32) (M : I_M) (r : I_M), r_goesThrough_L53 l1 n l3 M = some r → I_RnE (I_Ex d) i_c214 (53, [some (.ref 50), some (.int l1), none, some (.int l3), none], [], i_S X M) none (i_S X r) := by
  intro n
  induction n with
  | zero => intro _ M r h; cases h
  | succ n hself =>
    intro l3 M r h
    rw [r_goesThrough_L53] at h
    refine i_rs 3 (cf' := (57, [some (.ref 50), some (.int l1), none, some (.int l3), none], [.ref 50, .int (10 : Int32), .int l3], i_S X M)) rfl ?_
    obtain ⟨q1, hq1, h⟩ := i_bdE h
    refine i_rcall (k := 178) (as := [.ref 50]) (cf1 := (60, [some (.ref 50), some (.int l1), none, some (.int l3), none], [.int (10 : Int32), .int l3], i_S X M)) (cf' := (60, [some (.ref 50), some (.int l1), none, some (.int l3), none], [.int q1.1, .int (10 : Int32), .int l3], i_S X q1.2)) rfl (ok_r_cells (by omega) hq1) rfl ?_
    refine i_rs 1 (cf' := (61, [some (.ref 50), some (.int l1), none, some (.int l3), none], [.int ((10 : Int32) * q1.1), .int l3], i_S X q1.2)) rfl ?_
    by_cases c2 : l3 < ((10 : Int32) * q1.1)
    · replace h := (if_pos c2).symm.trans h
      refine i_rbT (c := l3 < ((10 : Int32) * q1.1)) (t := 64) (n := 122) rfl c2 ?_
      refine i_rs 2 (cf' := (66, [some (.ref 50), some (.int l1), none, some (.int l3), none], [.int (1 : Int32), .int l1], i_S X q1.2)) rfl ?_
      by_cases c3 : l1 = (1 : Int32)
      · replace h := (if_pos c3).symm.trans h
        refine i_rbT (c := l1 = (1 : Int32)) (t := 69) (n := 75) rfl c3 ?_
        refine i_rs 3 (cf' := (72, [some (.ref 50), some (.int l1), none, some (.int l3), none], [.int (-1 : Int32), .int l3, .ref 50], i_S X q1.2)) rfl ?_
        obtain ⟨q4, hq4, h⟩ := i_bdE h
        refine i_rcall (k := 216) (as := [.ref 50, .int l3, .int (-1 : Int32)]) (cf1 := (75, [some (.ref 50), some (.int l1), none, some (.int l3), none], [], i_S X q1.2)) (cf' := (75, [some (.ref 50), some (.int l1), none, some (.int l3), none], [], i_S X q4)) rfl (ok_r_counts (by omega) hq4) rfl ?_
        refine i_fg (lv' := [some (.ref 50), some (.int l1), none, some (.int l3), none]) (And.intro rfl (And.intro rfl (And.intro rfl True.intro))) ?_
        exact ok_r_goesThrough_B75 hself (by omega) h
      · replace h := (if_neg c3).symm.trans h
        refine i_rbF (c := l1 = (1 : Int32)) (t := 69) (n := 75) rfl c3 ?_
        refine i_fg (lv' := [some (.ref 50), some (.int l1), none, some (.int l3), none]) (And.intro rfl (And.intro rfl (And.intro rfl True.intro))) ?_
        exact ok_r_goesThrough_B75 hself (by omega) h
    · replace h := (if_neg c2).symm.trans h
      refine i_rbF (c := l3 < ((10 : Int32) * q1.1)) (t := 64) (n := 122) rfl c2 ?_
      obtain rfl := Option.some.inj h
      exact i_rret rfl rfl
def r_goesThrough_L28 (l1 : Int32) (k47 : I_M → Option I_M) : Nat → Int32 → I_M → Option I_M
  | 0, _, _ => none
  | n + 1, l3, M =>
    (if l3 < (25 : Int32) then
        i_g l3 25 ((r_goesThrough_L28 l1 k47 n) (l3 + (1 : Int32)) (i_wI M 63 (Int32.toNatClampNeg l3) (0 : Int32)))
      else
        k47  M)
theorem ok_r_goesThrough_L28 {X : Nat × (Nat → Int32)} {d : Nat} {l1 : Int32} {k47 : I_M → Option I_M} (hd : 69 ≤ d + 1) (hk47 : ∀ (M : I_M) (r : I_M), k47 M = some r → I_RnE (I_Ex d) i_c214 (47, [some (.ref 50), some (.int l1), none, none, none], [], i_S X M) none (i_S X r)) : ∀ (n : Nat) (l3 : Int32) (M : I_M) (r : I_M), r_goesThrough_L28 l1 k47 n l3 M = some r → I_RnE (I_Ex d) i_c214 (28, [some (.ref 50), some (.int l1), none, some (.int l3), none], [], i_S X M) none (i_S X r) := by
  intro n
  induction n with
  | zero => intro _ M r h; cases h
  | succ n hself =>
    intro l3 M r h
    rw [r_goesThrough_L28] at h
    refine i_rs 2 (cf' := (31, [some (.ref 50), some (.int l1), none, some (.int l3), none], [.int (25 : Int32), .int l3], i_S X M)) rfl ?_
    by_cases c9 : l3 < (25 : Int32)
    · replace h := (if_pos c9).symm.trans h
      refine i_rbT (c := l3 < (25 : Int32)) (t := 34) (n := 47) rfl c9 ?_
      refine i_rs 4 (cf' := (40, [some (.ref 50), some (.int l1), none, some (.int l3), none], [.int (0 : Int32), .int l3, .ref 63], i_S X M)) rfl ?_
      obtain ⟨g10, h⟩ := i_gE h
      refine i_riast (n := 25) (cf' := (41, [some (.ref 50), some (.int l1), none, some (.int l3), none], [], i_S X (i_wI M 63 (Int32.toNatClampNeg l3) (0 : Int32)))) rfl rfl (Or.inl rfl) g10 rfl ?_
      refine i_rs 2 (cf' := (28, [some (.ref 50), some (.int l1), none, some (.int (l3 + (1 : Int32))), none], [], i_S X (i_wI M 63 (Int32.toNatClampNeg l3) (0 : Int32)))) rfl ?_
      refine i_fg (lv' := [some (.ref 50), some (.int l1), none, some (.int (l3 + (1 : Int32))), none]) (And.intro rfl (And.intro rfl (And.intro rfl True.intro))) ?_
      exact hself (l3 + (1 : Int32)) (i_wI M 63 (Int32.toNatClampNeg l3) (0 : Int32)) _ h
    · replace h := (if_neg c9).symm.trans h
      refine i_rbF (c := l3 < (25 : Int32)) (t := 34) (n := 47) rfl c9 ?_
      refine i_fg (lv' := [some (.ref 50), some (.int l1), none, none, none]) (And.intro rfl (And.intro rfl True.intro)) ?_
      exact hk47  M _ h
def r_goesThrough (l1 : Int32) (l2 : Int32) (M : I_M) : Option I_M :=
  r_goesThrough_L28 l1 (fun M12 =>
        Option.bind (r_humsAll M12) (fun q13 => r_goesThrough_L53 l1 i_F (0 : Int32) q13)) i_F (0 : Int32) (i_wI (i_wI (i_wI (i_wI (i_wI M 50 34 l2) 50 27 (0 : Int32)) 50 30 (0 : Int32)) 50 31 (0 : Int32)) 50 33 (-2 : Int32))
theorem ok_r_goesThrough {X : Nat × (Nat → Int32)} {d : Nat} {l1 : Int32} {l2 : Int32} {M : I_M} {r : I_M} (hd : 69 ≤ d) (h : r_goesThrough l1 l2 M = some r) : I_Ex d 214 [.ref 50, .int l1, .int l2] (i_S X M) none (i_S X r) := by
  obtain ⟨d, rfl⟩ : ∃ d1, d = d1 + 1 := ⟨d - 1, by omega⟩
  unfold r_goesThrough at h
  refine i_ex (e := i_r214) (lv := [some (.ref 50), some (.int l1), some (.int l2), none, none]) rfl (Nat.le_of_ble_eq_true rfl) rfl ?_
  show I_RnE (I_Ex d) i_c214 (0, [some (.ref 50), some (.int l1), some (.int l2), none, none], [], i_S X M) _ _
  refine i_rs 17 (cf' := (28, [some (.ref 50), some (.int l1), some (.int l2), some (.int (0 : Int32)), none], [], i_S X (i_wI (i_wI (i_wI (i_wI (i_wI M 50 34 l2) 50 27 (0 : Int32)) 50 30 (0 : Int32)) 50 31 (0 : Int32)) 50 33 (-2 : Int32)))) rfl ?_
  refine i_fg (lv' := [some (.ref 50), some (.int l1), none, some (.int (0 : Int32)), none]) (And.intro rfl (And.intro rfl (And.intro rfl True.intro))) ?_
  refine ok_r_goesThrough_L28 (by omega) (fun M12 r h => ?_) i_F (0 : Int32) (i_wI (i_wI (i_wI (i_wI (i_wI M 50 34 l2) 50 27 (0 : Int32)) 50 30 (0 : Int32)) 50 31 (0 : Int32)) 50 33 (-2 : Int32)) _ h
  refine i_rs 1 (cf' := (48, [some (.ref 50), some (.int l1), none, none, none], [.ref 50], i_S X M12)) rfl ?_
  obtain ⟨q13, hq13, h⟩ := i_bdE h
  refine i_rcall (k := 215) (as := [.ref 50]) (cf1 := (51, [some (.ref 50), some (.int l1), none, none, none], [], i_S X M12)) (cf' := (51, [some (.ref 50), some (.int l1), none, none, none], [], i_S X q13)) rfl (ok_r_humsAll (by omega) hq13) rfl ?_
  refine i_rs 2 (cf' := (53, [some (.ref 50), some (.int l1), none, some (.int (0 : Int32)), none], [], i_S X q13)) rfl ?_
  refine i_fg (lv' := [some (.ref 50), some (.int l1), none, some (.int (0 : Int32)), none]) (And.intro rfl (And.intro rfl (And.intro rfl True.intro))) ?_
  refine ok_r_goesThrough_L53 (by omega) i_F (0 : Int32) q13 _ h
def r_ways (l1 : Int32) (l2 : Int32) (M : I_M) : Option (Int32 × I_M) :=
  Option.bind (r_isN l1 M) (fun q1 => (if q1.1 = (0 : Int32) then
      some ((-1 : Int32), q1.2)
    else
      Option.bind (r_within (Int32.toInt64 l2) (-1 : Int64) (Int32.toInt64 (l1 - (1 : Int32))) q1.2) (fun q3 => (if q3.1 = (0 : Int32) then
        some ((-1 : Int32), q3.2)
      else
        Option.bind (r_goesThrough l1 (0 : Int32) q3.2) (fun q5 => (if l2 = (-1 : Int32) then
          some ((q5.1 50 27), q5)
        else
          (if (q5.1 50 27) = (0 : Int32) then
            some ((-2 : Int32), q5)
          else
            (if l2 = (0 : Int32) then
              some ((q5.1 50 28), q5)
            else
              some ((q5.1 50 29), q5)))))))))
theorem ok_r_ways {X : Nat × (Nat → Int32)} {d : Nat} {l1 : Int32} {l2 : Int32} {M : I_M} {r : (Int32 × I_M)} (hd : 70 ≤ d) (h : r_ways l1 l2 M = some r) : I_Ex d 212 [.ref 50, .int l1, .int l2] (i_S X M) (some (.int r.1)) (i_S X r.2) := by
  obtain ⟨d, rfl⟩ : ∃ d1, d = d1 + 1 := ⟨d - 1, by omega⟩
  unfold r_ways at h
  refine i_ex (e := i_r212) (lv := [some (.ref 50), some (.int l1), some (.int l2)]) rfl (Nat.le_of_ble_eq_true rfl) rfl ?_
  show I_RnE (I_Ex d) i_c212 (0, [some (.ref 50), some (.int l1), some (.int l2)], [], i_S X M) _ _
  refine i_rs 1 (cf' := (1, [some (.ref 50), some (.int l1), some (.int l2)], [.int l1], i_S X M)) rfl ?_
  obtain ⟨q1, hq1, h⟩ := i_bdE h
  refine i_rcall (k := 213) (as := [.int l1]) (cf1 := (4, [some (.ref 50), some (.int l1), some (.int l2)], [], i_S X M)) (cf' := (4, [some (.ref 50), some (.int l1), some (.int l2)], [.int q1.1], i_S X q1.2)) rfl (ok_r_isN (by omega) hq1) rfl ?_
  by_cases c2 : q1.1 = (0 : Int32)
  · replace h := (if_pos c2).symm.trans h
    refine i_rbT (c := q1.1 = (0 : Int32)) (t := 22) (n := 7) rfl c2 ?_
    refine i_rs 1 (cf' := (23, [some (.ref 50), some (.int l1), some (.int l2)], [.int (-1 : Int32)], i_S X q1.2)) rfl ?_
    obtain rfl := Option.some.inj h
    exact i_rret rfl rfl
  · replace h := (if_neg c2).symm.trans h
    refine i_rbF (c := q1.1 = (0 : Int32)) (t := 22) (n := 7) rfl c2 ?_
    refine i_rs 7 (cf' := (16, [some (.ref 50), some (.int l1), some (.int l2)], [.long (Int32.toInt64 (l1 - (1 : Int32))), .long (-1 : Int64), .long (Int32.toInt64 l2)], i_S X q1.2)) rfl ?_
    obtain ⟨q3, hq3, h⟩ := i_bdE h
    refine i_rcall (k := 175) (as := [.long (Int32.toInt64 l2), .long (-1 : Int64), .long (Int32.toInt64 (l1 - (1 : Int32)))]) (cf1 := (19, [some (.ref 50), some (.int l1), some (.int l2)], [], i_S X q1.2)) (cf' := (19, [some (.ref 50), some (.int l1), some (.int l2)], [.int q3.1], i_S X q3.2)) rfl (ok_r_within (by omega) hq3) rfl ?_
    by_cases c4 : q3.1 = (0 : Int32)
    · replace h := (if_pos c4).symm.trans h
      refine i_rbT (c := q3.1 = (0 : Int32)) (t := 22) (n := 24) rfl c4 ?_
      refine i_rs 1 (cf' := (23, [some (.ref 50), some (.int l1), some (.int l2)], [.int (-1 : Int32)], i_S X q3.2)) rfl ?_
      obtain rfl := Option.some.inj h
      exact i_rret rfl rfl
    · replace h := (if_neg c4).symm.trans h
      refine i_rbF (c := q3.1 = (0 : Int32)) (t := 22) (n := 24) rfl c4 ?_
      refine i_rs 3 (cf' := (27, [some (.ref 50), some (.int l1), some (.int l2)], [.int (0 : Int32), .int l1, .ref 50], i_S X q3.2)) rfl ?_
      obtain ⟨q5, hq5, h⟩ := i_bdE h
      refine i_rcall (k := 214) (as := [.ref 50, .int l1, .int (0 : Int32)]) (cf1 := (30, [some (.ref 50), some (.int l1), some (.int l2)], [], i_S X q3.2)) (cf' := (30, [some (.ref 50), some (.int l1), some (.int l2)], [], i_S X q5)) rfl (ok_r_goesThrough (by omega) hq5) rfl ?_
      refine i_rs 2 (cf' := (32, [some (.ref 50), some (.int l1), some (.int l2)], [.int (-1 : Int32), .int l2], i_S X q5)) rfl ?_
      by_cases c6 : l2 = (-1 : Int32)
      · replace h := (if_pos c6).symm.trans h
        refine i_rbT (c := l2 = (-1 : Int32)) (t := 35) (n := 40) rfl c6 ?_
        refine i_rs 2 (cf' := (39, [some (.ref 50), some (.int l1), some (.int l2)], [.int (q5.1 50 27)], i_S X q5)) rfl ?_
        obtain rfl := Option.some.inj h
        exact i_rret rfl rfl
      · replace h := (if_neg c6).symm.trans h
        refine i_rbF (c := l2 = (-1 : Int32)) (t := 35) (n := 40) rfl c6 ?_
        refine i_rs 2 (cf' := (44, [some (.ref 50), some (.int l1), some (.int l2)], [.int (q5.1 50 27)], i_S X q5)) rfl ?_
        by_cases c7 : (q5.1 50 27) = (0 : Int32)
        · replace h := (if_pos c7).symm.trans h
          refine i_rbT (c := (q5.1 50 27) = (0 : Int32)) (t := 47) (n := 52) rfl c7 ?_
          refine i_rs 2 (cf' := (67, [some (.ref 50), some (.int l1), some (.int l2)], [.int (-2 : Int32)], i_S X q5)) rfl ?_
          obtain rfl := Option.some.inj h
          exact i_rret rfl rfl
        · replace h := (if_neg c7).symm.trans h
          refine i_rbF (c := (q5.1 50 27) = (0 : Int32)) (t := 47) (n := 52) rfl c7 ?_
          refine i_rs 1 (cf' := (53, [some (.ref 50), some (.int l1), some (.int l2)], [.int l2], i_S X q5)) rfl ?_
          by_cases c8 : l2 = (0 : Int32)
          · replace h := (if_pos c8).symm.trans h
            refine i_rbT (c := l2 = (0 : Int32)) (t := 56) (n := 63) rfl c8 ?_
            refine i_rs 3 (cf' := (67, [some (.ref 50), some (.int l1), some (.int l2)], [.int (q5.1 50 28)], i_S X q5)) rfl ?_
            obtain rfl := Option.some.inj h
            exact i_rret rfl rfl
          · replace h := (if_neg c8).symm.trans h
            refine i_rbF (c := l2 = (0 : Int32)) (t := 56) (n := 63) rfl c8 ?_
            refine i_rs 2 (cf' := (67, [some (.ref 50), some (.int l1), some (.int l2)], [.int (q5.1 50 29)], i_S X q5)) rfl ?_
            obtain rfl := Option.some.inj h
            exact i_rret rfl rfl
def b_Search_cellsIn_L4 (l1 : Int32) : Nat → Int32 → Int32 → I_M → Option (Int32 × I_M)
  | 0, _, _, _ => none
  | n + 1, l2, l3, M =>
    Option.bind (b_Land_cells M) (fun q1 => (if l3 < q1.1 then
        i_g l3 25 ((if (q1.2.1 24 (Int32.toNatClampNeg l3)) = l1 then
          (b_Search_cellsIn_L4 l1 n) (l2 ||| ((1 : Int32) <<< (l3 &&& 31))) (l3 + (1 : Int32)) q1.2
        else
          (b_Search_cellsIn_L4 l1 n) l2 (l3 + (1 : Int32)) q1.2))
      else
        some (l2, q1.2)))
theorem ok_b_Search_cellsIn_L4 {X : Nat × (Nat → Int32)} {d : Nat} {l1 : Int32} (hd : 2 ≤ d + 1) : ∀ (n : Nat) (l2 : Int32) (l3 : Int32) (M : I_M) (r : (Int32 × I_M)), b_Search_cellsIn_L4 l1 n l2 l3 M = some r → I_RnE (I_Ex d) i_c91 (4, [some (.ref 22), some (.int l1), some (.int l2), some (.int l3)], [], i_S X M) (some (.int r.1)) (i_S X r.2) := by
  intro n
  induction n with
  | zero => intro _ _ M r h; cases h
  | succ n hself =>
    intro l2 l3 M r h
    rw [b_Search_cellsIn_L4] at h
    refine i_rs 3 (cf' := (9, [some (.ref 22), some (.int l1), some (.int l2), some (.int l3)], [.ref 1, .int l3], i_S X M)) rfl ?_
    obtain ⟨q1, hq1, h⟩ := i_bdE h
    refine i_rcall (k := 21) (as := [.ref 1]) (cf1 := (12, [some (.ref 22), some (.int l1), some (.int l2), some (.int l3)], [.int l3], i_S X M)) (cf' := (12, [some (.ref 22), some (.int l1), some (.int l2), some (.int l3)], [.int q1.1, .int l3], i_S X q1.2)) rfl (ok_b_Land_cells (by omega) hq1) rfl ?_
    by_cases c2 : l3 < q1.1
    · replace h := (if_pos c2).symm.trans h
      refine i_rbT (c := l3 < q1.1) (t := 15) (n := 37) rfl c2 ?_
      refine i_rs 3 (cf' := (20, [some (.ref 22), some (.int l1), some (.int l2), some (.int l3)], [.int l3, .ref 24], i_S X q1.2)) rfl ?_
      obtain ⟨g3, h⟩ := i_gE h
      refine i_riald (n := 25) (cf' := (21, [some (.ref 22), some (.int l1), some (.int l2), some (.int l3)], [.int (q1.2.1 24 (Int32.toNatClampNeg l3))], i_S X q1.2)) rfl rfl (by decide) g3 rfl ?_
      refine i_rs 1 (cf' := (22, [some (.ref 22), some (.int l1), some (.int l2), some (.int l3)], [.int l1, .int (q1.2.1 24 (Int32.toNatClampNeg l3))], i_S X q1.2)) rfl ?_
      by_cases c4 : (q1.2.1 24 (Int32.toNatClampNeg l3)) = l1
      · replace h := (if_pos c4).symm.trans h
        refine i_rbT (c := (q1.2.1 24 (Int32.toNatClampNeg l3)) = l1) (t := 25) (n := 31) rfl c4 ?_
        refine i_rs 8 (cf' := (4, [some (.ref 22), some (.int l1), some (.int (l2 ||| ((1 : Int32) <<< (l3 &&& 31)))), some (.int (l3 + (1 : Int32)))], [], i_S X q1.2)) rfl ?_
        refine i_fg (lv' := [some (.ref 22), some (.int l1), some (.int (l2 ||| ((1 : Int32) <<< (l3 &&& 31)))), some (.int (l3 + (1 : Int32)))]) (And.intro rfl (And.intro rfl (And.intro rfl (And.intro rfl True.intro)))) ?_
        exact hself (l2 ||| ((1 : Int32) <<< (l3 &&& 31))) (l3 + (1 : Int32)) q1.2 _ h
      · replace h := (if_neg c4).symm.trans h
        refine i_rbF (c := (q1.2.1 24 (Int32.toNatClampNeg l3)) = l1) (t := 25) (n := 31) rfl c4 ?_
        refine i_rs 2 (cf' := (4, [some (.ref 22), some (.int l1), some (.int l2), some (.int (l3 + (1 : Int32)))], [], i_S X q1.2)) rfl ?_
        refine i_fg (lv' := [some (.ref 22), some (.int l1), some (.int l2), some (.int (l3 + (1 : Int32)))]) (And.intro rfl (And.intro rfl (And.intro rfl (And.intro rfl True.intro)))) ?_
        exact hself l2 (l3 + (1 : Int32)) q1.2 _ h
    · replace h := (if_neg c2).symm.trans h
      refine i_rbF (c := l3 < q1.1) (t := 15) (n := 37) rfl c2 ?_
      refine i_rs 1 (cf' := (38, [some (.ref 22), some (.int l1), some (.int l2), some (.int l3)], [.int l2], i_S X q1.2)) rfl ?_
      obtain rfl := Option.some.inj h
      exact i_rret rfl rfl
def b_Search_cellsIn (l1 : Int32) (M : I_M) : Option (Int32 × I_M) :=
  b_Search_cellsIn_L4 l1 i_F (0 : Int32) (0 : Int32) M
theorem ok_b_Search_cellsIn {X : Nat × (Nat → Int32)} {d : Nat} {l1 : Int32} {M : I_M} {r : (Int32 × I_M)} (hd : 2 ≤ d) (h : b_Search_cellsIn l1 M = some r) : I_Ex d 91 [.ref 22, .int l1] (i_S X M) (some (.int r.1)) (i_S X r.2) := by
  obtain ⟨d, rfl⟩ : ∃ d1, d = d1 + 1 := ⟨d - 1, by omega⟩
  unfold b_Search_cellsIn at h
  refine i_ex (e := i_r91) (lv := [some (.ref 22), some (.int l1), none, none]) rfl (Nat.le_of_ble_eq_true rfl) rfl ?_
  show I_RnE (I_Ex d) i_c91 (0, [some (.ref 22), some (.int l1), none, none], [], i_S X M) _ _
  refine i_rs 4 (cf' := (4, [some (.ref 22), some (.int l1), some (.int (0 : Int32)), some (.int (0 : Int32))], [], i_S X M)) rfl ?_
  refine i_fg (lv' := [some (.ref 22), some (.int l1), some (.int (0 : Int32)), some (.int (0 : Int32))]) (And.intro rfl (And.intro rfl (And.intro rfl (And.intro rfl True.intro)))) ?_
  refine ok_b_Search_cellsIn_L4 (by omega) i_F (0 : Int32) (0 : Int32) M _ h
def b_sure (l1 : Int32) (l2 : Int32) (M : I_M) : Option (Int32 × I_M) :=
  Option.bind (b_isSize l1 M) (fun q1 => (if q1.1 = (0 : Int32) then
      some ((-1 : Int32), q1.2)
    else
      (if l2 < (0 : Int32) then
        some ((-1 : Int32), q1.2)
      else
        (if (1 : Int32) < l2 then
          some ((-1 : Int32), q1.2)
        else
          Option.bind (b_Search_goThrough l1 (-1 : Int32) q1.2) (fun q5 => (if (q5.1 22 5) = (0 : Int32) then
            some ((0 : Int32), q5)
          else
            (if l2 = (0 : Int32) then
              Option.bind (b_Search_cellsIn (q5.1 22 5) q5) (fun q8 => some (q8.1, q8.2))
            else
              Option.bind (b_Search_cellsIn (0 : Int32) q5) (fun q9 => some (q9.1, q9.2)))))))))
theorem ok_b_sure {X : Nat × (Nat → Int32)} {d : Nat} {l1 : Int32} {l2 : Int32} {M : I_M} {r : (Int32 × I_M)} (hd : 7 ≤ d) (h : b_sure l1 l2 M = some r) : I_Ex d 90 [.ref 0, .int l1, .int l2] (i_S X M) (some (.int r.1)) (i_S X r.2) := by
  obtain ⟨d, rfl⟩ : ∃ d1, d = d1 + 1 := ⟨d - 1, by omega⟩
  unfold b_sure at h
  refine i_ex (e := i_r90) (lv := [some (.ref 0), some (.int l1), some (.int l2)]) rfl (Nat.le_of_ble_eq_true rfl) rfl ?_
  show I_RnE (I_Ex d) i_c90 (0, [some (.ref 0), some (.int l1), some (.int l2)], [], i_S X M) _ _
  refine i_rs 1 (cf' := (1, [some (.ref 0), some (.int l1), some (.int l2)], [.int l1], i_S X M)) rfl ?_
  obtain ⟨q1, hq1, h⟩ := i_bdE h
  refine i_rcall (k := 81) (as := [.int l1]) (cf1 := (4, [some (.ref 0), some (.int l1), some (.int l2)], [], i_S X M)) (cf' := (4, [some (.ref 0), some (.int l1), some (.int l2)], [.int q1.1], i_S X q1.2)) rfl (ok_b_isSize (by omega) hq1) rfl ?_
  by_cases c2 : q1.1 = (0 : Int32)
  · replace h := (if_pos c2).symm.trans h
    refine i_rbT (c := q1.1 = (0 : Int32)) (t := 16) (n := 7) rfl c2 ?_
    refine i_rs 1 (cf' := (17, [some (.ref 0), some (.int l1), some (.int l2)], [.int (-1 : Int32)], i_S X q1.2)) rfl ?_
    obtain rfl := Option.some.inj h
    exact i_rret rfl rfl
  · replace h := (if_neg c2).symm.trans h
    refine i_rbF (c := q1.1 = (0 : Int32)) (t := 16) (n := 7) rfl c2 ?_
    refine i_rs 1 (cf' := (8, [some (.ref 0), some (.int l1), some (.int l2)], [.int l2], i_S X q1.2)) rfl ?_
    by_cases c3 : l2 < (0 : Int32)
    · replace h := (if_pos c3).symm.trans h
      refine i_rbT (c := l2 < (0 : Int32)) (t := 16) (n := 11) rfl c3 ?_
      refine i_rs 1 (cf' := (17, [some (.ref 0), some (.int l1), some (.int l2)], [.int (-1 : Int32)], i_S X q1.2)) rfl ?_
      obtain rfl := Option.some.inj h
      exact i_rret rfl rfl
    · replace h := (if_neg c3).symm.trans h
      refine i_rbF (c := l2 < (0 : Int32)) (t := 16) (n := 11) rfl c3 ?_
      refine i_rs 2 (cf' := (13, [some (.ref 0), some (.int l1), some (.int l2)], [.int (1 : Int32), .int l2], i_S X q1.2)) rfl ?_
      by_cases c4 : (1 : Int32) < l2
      · replace h := (if_pos c4).symm.trans h
        refine i_rbT (c := (1 : Int32) < l2) (t := 16) (n := 18) rfl c4 ?_
        refine i_rs 1 (cf' := (17, [some (.ref 0), some (.int l1), some (.int l2)], [.int (-1 : Int32)], i_S X q1.2)) rfl ?_
        obtain rfl := Option.some.inj h
        exact i_rret rfl rfl
      · replace h := (if_neg c4).symm.trans h
        refine i_rbF (c := (1 : Int32) < l2) (t := 16) (n := 18) rfl c4 ?_
        refine i_rs 4 (cf' := (24, [some (.ref 0), some (.int l1), some (.int l2)], [.int (-1 : Int32), .int l1, .ref 22], i_S X q1.2)) rfl ?_
        obtain ⟨q5, hq5, h⟩ := i_bdE h
        refine i_rcall (k := 82) (as := [.ref 22, .int l1, .int (-1 : Int32)]) (cf1 := (27, [some (.ref 0), some (.int l1), some (.int l2)], [], i_S X q1.2)) (cf' := (27, [some (.ref 0), some (.int l1), some (.int l2)], [], i_S X q5)) rfl (ok_b_Search_goThrough (by omega) hq5) rfl ?_
        refine i_rs 3 (cf' := (34, [some (.ref 0), some (.int l1), some (.int l2)], [.int (q5.1 22 5)], i_S X q5)) rfl ?_
        by_cases c6 : (q5.1 22 5) = (0 : Int32)
        · replace h := (if_pos c6).symm.trans h
          refine i_rbT (c := (q5.1 22 5) = (0 : Int32)) (t := 37) (n := 41) rfl c6 ?_
          refine i_rs 2 (cf' := (63, [some (.ref 0), some (.int l1), some (.int l2)], [.int (0 : Int32)], i_S X q5)) rfl ?_
          obtain rfl := Option.some.inj h
          exact i_rret rfl rfl
        · replace h := (if_neg c6).symm.trans h
          refine i_rbF (c := (q5.1 22 5) = (0 : Int32)) (t := 37) (n := 41) rfl c6 ?_
          refine i_rs 3 (cf' := (46, [some (.ref 0), some (.int l1), some (.int l2)], [.int l2, .ref 22], i_S X q5)) rfl ?_
          by_cases c7 : l2 = (0 : Int32)
          · replace h := (if_pos c7).symm.trans h
            refine i_rbT (c := l2 = (0 : Int32)) (t := 49) (n := 59) rfl c7 ?_
            refine i_rs 4 (cf' := (60, [some (.ref 0), some (.int l1), some (.int l2)], [.int (q5.1 22 5), .ref 22], i_S X q5)) rfl ?_
            obtain ⟨q8, hq8, h⟩ := i_bdE h
            refine i_rcall (k := 91) (as := [.ref 22, .int (q5.1 22 5)]) (cf1 := (63, [some (.ref 0), some (.int l1), some (.int l2)], [], i_S X q5)) (cf' := (63, [some (.ref 0), some (.int l1), some (.int l2)], [.int q8.1], i_S X q8.2)) rfl (ok_b_Search_cellsIn (by omega) hq8) rfl ?_
            obtain rfl := Option.some.inj h
            exact i_rret rfl rfl
          · replace h := (if_neg c7).symm.trans h
            refine i_rbF (c := l2 = (0 : Int32)) (t := 49) (n := 59) rfl c7 ?_
            refine i_rs 1 (cf' := (60, [some (.ref 0), some (.int l1), some (.int l2)], [.int (0 : Int32), .ref 22], i_S X q5)) rfl ?_
            obtain ⟨q9, hq9, h⟩ := i_bdE h
            refine i_rcall (k := 91) (as := [.ref 22, .int (0 : Int32)]) (cf1 := (63, [some (.ref 0), some (.int l1), some (.int l2)], [], i_S X q5)) (cf' := (63, [some (.ref 0), some (.int l1), some (.int l2)], [.int q9.1], i_S X q9.2)) rfl (ok_b_Search_cellsIn (by omega) hq9) rfl ?_
            obtain rfl := Option.some.inj h
            exact i_rret rfl rfl
def r_sure (l1 : Int32) (l2 : Int32) (M : I_M) : Option (Int32 × I_M) :=
  Option.bind (r_isN l1 M) (fun q1 => (if q1.1 = (0 : Int32) then
      some ((-1 : Int32), q1.2)
    else
      Option.bind (r_within (Int32.toInt64 l2) (0 : Int64) (1 : Int64) q1.2) (fun q3 => (if q3.1 = (0 : Int32) then
        some ((-1 : Int32), q3.2)
      else
        Option.bind (r_goesThrough l1 (0 : Int32) q3.2) (fun q5 => (if (q5.1 50 27) = (0 : Int32) then
          some ((0 : Int32), q5)
        else
          (if l2 = (0 : Int32) then
            some ((q5.1 50 30), q5)
          else
            Option.bind (r_cells q5) (fun q8 => some (((((1 : Int32) <<< (q8.1 &&& 31)) - (1 : Int32)) &&& ((q8.2.1 50 31) ^^^ (-1 : Int32))), q8.2)))))))))
theorem ok_r_sure {X : Nat × (Nat → Int32)} {d : Nat} {l1 : Int32} {l2 : Int32} {M : I_M} {r : (Int32 × I_M)} (hd : 70 ≤ d) (h : r_sure l1 l2 M = some r) : I_Ex d 219 [.ref 50, .int l1, .int l2] (i_S X M) (some (.int r.1)) (i_S X r.2) := by
  obtain ⟨d, rfl⟩ : ∃ d1, d = d1 + 1 := ⟨d - 1, by omega⟩
  unfold r_sure at h
  refine i_ex (e := i_r219) (lv := [some (.ref 50), some (.int l1), some (.int l2)]) rfl (Nat.le_of_ble_eq_true rfl) rfl ?_
  show I_RnE (I_Ex d) i_c219 (0, [some (.ref 50), some (.int l1), some (.int l2)], [], i_S X M) _ _
  refine i_rs 1 (cf' := (1, [some (.ref 50), some (.int l1), some (.int l2)], [.int l1], i_S X M)) rfl ?_
  obtain ⟨q1, hq1, h⟩ := i_bdE h
  refine i_rcall (k := 213) (as := [.int l1]) (cf1 := (4, [some (.ref 50), some (.int l1), some (.int l2)], [], i_S X M)) (cf' := (4, [some (.ref 50), some (.int l1), some (.int l2)], [.int q1.1], i_S X q1.2)) rfl (ok_r_isN (by omega) hq1) rfl ?_
  by_cases c2 : q1.1 = (0 : Int32)
  · replace h := (if_pos c2).symm.trans h
    refine i_rbT (c := q1.1 = (0 : Int32)) (t := 17) (n := 7) rfl c2 ?_
    refine i_rs 1 (cf' := (18, [some (.ref 50), some (.int l1), some (.int l2)], [.int (-1 : Int32)], i_S X q1.2)) rfl ?_
    obtain rfl := Option.some.inj h
    exact i_rret rfl rfl
  · replace h := (if_neg c2).symm.trans h
    refine i_rbF (c := q1.1 = (0 : Int32)) (t := 17) (n := 7) rfl c2 ?_
    refine i_rs 4 (cf' := (11, [some (.ref 50), some (.int l1), some (.int l2)], [.long (1 : Int64), .long (0 : Int64), .long (Int32.toInt64 l2)], i_S X q1.2)) rfl ?_
    obtain ⟨q3, hq3, h⟩ := i_bdE h
    refine i_rcall (k := 175) (as := [.long (Int32.toInt64 l2), .long (0 : Int64), .long (1 : Int64)]) (cf1 := (14, [some (.ref 50), some (.int l1), some (.int l2)], [], i_S X q1.2)) (cf' := (14, [some (.ref 50), some (.int l1), some (.int l2)], [.int q3.1], i_S X q3.2)) rfl (ok_r_within (by omega) hq3) rfl ?_
    by_cases c4 : q3.1 = (0 : Int32)
    · replace h := (if_pos c4).symm.trans h
      refine i_rbT (c := q3.1 = (0 : Int32)) (t := 17) (n := 19) rfl c4 ?_
      refine i_rs 1 (cf' := (18, [some (.ref 50), some (.int l1), some (.int l2)], [.int (-1 : Int32)], i_S X q3.2)) rfl ?_
      obtain rfl := Option.some.inj h
      exact i_rret rfl rfl
    · replace h := (if_neg c4).symm.trans h
      refine i_rbF (c := q3.1 = (0 : Int32)) (t := 17) (n := 19) rfl c4 ?_
      refine i_rs 3 (cf' := (22, [some (.ref 50), some (.int l1), some (.int l2)], [.int (0 : Int32), .int l1, .ref 50], i_S X q3.2)) rfl ?_
      obtain ⟨q5, hq5, h⟩ := i_bdE h
      refine i_rcall (k := 214) (as := [.ref 50, .int l1, .int (0 : Int32)]) (cf1 := (25, [some (.ref 50), some (.int l1), some (.int l2)], [], i_S X q3.2)) (cf' := (25, [some (.ref 50), some (.int l1), some (.int l2)], [], i_S X q5)) rfl (ok_r_goesThrough (by omega) hq5) rfl ?_
      refine i_rs 2 (cf' := (29, [some (.ref 50), some (.int l1), some (.int l2)], [.int (q5.1 50 27)], i_S X q5)) rfl ?_
      by_cases c6 : (q5.1 50 27) = (0 : Int32)
      · replace h := (if_pos c6).symm.trans h
        refine i_rbT (c := (q5.1 50 27) = (0 : Int32)) (t := 32) (n := 36) rfl c6 ?_
        refine i_rs 2 (cf' := (62, [some (.ref 50), some (.int l1), some (.int l2)], [.int (0 : Int32)], i_S X q5)) rfl ?_
        obtain rfl := Option.some.inj h
        exact i_rret rfl rfl
      · replace h := (if_neg c6).symm.trans h
        refine i_rbF (c := (q5.1 50 27) = (0 : Int32)) (t := 32) (n := 36) rfl c6 ?_
        refine i_rs 1 (cf' := (37, [some (.ref 50), some (.int l1), some (.int l2)], [.int l2], i_S X q5)) rfl ?_
        by_cases c7 : l2 = (0 : Int32)
        · replace h := (if_pos c7).symm.trans h
          refine i_rbT (c := l2 = (0 : Int32)) (t := 40) (n := 47) rfl c7 ?_
          refine i_rs 3 (cf' := (62, [some (.ref 50), some (.int l1), some (.int l2)], [.int (q5.1 50 30)], i_S X q5)) rfl ?_
          obtain rfl := Option.some.inj h
          exact i_rret rfl rfl
        · replace h := (if_neg c7).symm.trans h
          refine i_rbF (c := l2 = (0 : Int32)) (t := 40) (n := 47) rfl c7 ?_
          refine i_rs 2 (cf' := (49, [some (.ref 50), some (.int l1), some (.int l2)], [.ref 50, .int (1 : Int32)], i_S X q5)) rfl ?_
          obtain ⟨q8, hq8, h⟩ := i_bdE h
          refine i_rcall (k := 178) (as := [.ref 50]) (cf1 := (52, [some (.ref 50), some (.int l1), some (.int l2)], [.int (1 : Int32)], i_S X q5)) (cf' := (52, [some (.ref 50), some (.int l1), some (.int l2)], [.int q8.1, .int (1 : Int32)], i_S X q8.2)) rfl (ok_r_cells (by omega) hq8) rfl ?_
          refine i_rs 8 (cf' := (62, [some (.ref 50), some (.int l1), some (.int l2)], [.int ((((1 : Int32) <<< (q8.1 &&& 31)) - (1 : Int32)) &&& ((q8.2.1 50 31) ^^^ (-1 : Int32)))], i_S X q8.2)) rfl ?_
          obtain rfl := Option.some.inj h
          exact i_rret rfl rfl
def b_commonDivisor_L7 : Nat → Int32 → Int32 → Int32 → I_M → Option (Int32 × I_M)
  | 0, _, _, _, _ => none
  | n + 1, l2, l3, l4, M =>
    (if l4 < (64 : Int32) then
        (if l3 = (0 : Int32) then
          some (l2, M)
        else
          i_nz l3 ((b_commonDivisor_L7 n) l3 (i_rem l2 l3) (l4 + (1 : Int32)) M))
      else
        some (l2, M))
theorem ok_b_commonDivisor_L7 {X : Nat × (Nat → Int32)} {d : Nat} (hd : 1 ≤ d + 1) : ∀ (n : Nat) (l2 : Int32) (l3 : Int32) (l4 : Int32) (M : I_M) (r : (Int32 × I_M)), b_commonDivisor_L7 n l2 l3 l4 M = some r → I_RnE (I_Ex d) i_c93 (7, [none, none, some (.int l2), some (.int l3), some (.int l4), none], [], i_S X M) (some (.int r.1)) (i_S X r.2) := by
  intro n
  induction n with
  | zero => intro _ _ _ M r h; cases h
  | succ n hself =>
    intro l2 l3 l4 M r h
    rw [b_commonDivisor_L7] at h
    refine i_rs 2 (cf' := (11, [none, none, some (.int l2), some (.int l3), some (.int l4), none], [.int (64 : Int32), .int l4], i_S X M)) rfl ?_
    by_cases c1 : l4 < (64 : Int32)
    · replace h := (if_pos c1).symm.trans h
      refine i_rbT (c := l4 < (64 : Int32)) (t := 14) (n := 34) rfl c1 ?_
      refine i_rs 1 (cf' := (15, [none, none, some (.int l2), some (.int l3), some (.int l4), none], [.int l3], i_S X M)) rfl ?_
      by_cases c2 : l3 = (0 : Int32)
      · replace h := (if_pos c2).symm.trans h
        refine i_rbT (c := l3 = (0 : Int32)) (t := 34) (n := 18) rfl c2 ?_
        refine i_rs 1 (cf' := (35, [none, none, some (.int l2), some (.int l3), some (.int l4), none], [.int l2], i_S X M)) rfl ?_
        obtain rfl := Option.some.inj h
        exact i_rret rfl rfl
      · replace h := (if_neg c2).symm.trans h
        refine i_rbF (c := l3 = (0 : Int32)) (t := 34) (n := 18) rfl c2 ?_
        refine i_rs 2 (cf' := (20, [none, none, some (.int l2), some (.int l3), some (.int l4), none], [.int l3, .int l2], i_S X M)) rfl ?_
        obtain ⟨g3, h⟩ := i_nzE h
        refine i_rrem (cf' := (21, [none, none, some (.int l2), some (.int l3), some (.int l4), none], [.int (i_rem l2 l3)], i_S X M)) rfl g3 rfl ?_
        refine i_rs 7 (cf' := (7, [none, none, some (.int l3), some (.int (i_rem l2 l3)), some (.int (l4 + (1 : Int32))), some (.int (i_rem l2 l3))], [], i_S X M)) rfl ?_
        refine i_fg (lv' := [none, none, some (.int l3), some (.int (i_rem l2 l3)), some (.int (l4 + (1 : Int32))), none]) (And.intro rfl (And.intro rfl (And.intro rfl True.intro))) ?_
        exact hself l3 (i_rem l2 l3) (l4 + (1 : Int32)) M _ h
    · replace h := (if_neg c1).symm.trans h
      refine i_rbF (c := l4 < (64 : Int32)) (t := 14) (n := 34) rfl c1 ?_
      refine i_rs 1 (cf' := (35, [none, none, some (.int l2), some (.int l3), some (.int l4), none], [.int l2], i_S X M)) rfl ?_
      obtain rfl := Option.some.inj h
      exact i_rret rfl rfl
def b_commonDivisor (l0 : Int32) (l1 : Int32) (M : I_M) : Option (Int32 × I_M) :=
  b_commonDivisor_L7 i_F l0 l1 (0 : Int32) M
theorem ok_b_commonDivisor {X : Nat × (Nat → Int32)} {d : Nat} {l0 : Int32} {l1 : Int32} {M : I_M} {r : (Int32 × I_M)} (hd : 1 ≤ d) (h : b_commonDivisor l0 l1 M = some r) : I_Ex d 93 [.int l0, .int l1] (i_S X M) (some (.int r.1)) (i_S X r.2) := by
  obtain ⟨d, rfl⟩ : ∃ d1, d = d1 + 1 := ⟨d - 1, by omega⟩
  unfold b_commonDivisor at h
  refine i_ex (e := i_r93) (lv := [some (.int l0), some (.int l1), none, none, none, none]) rfl (Nat.le_of_ble_eq_true rfl) rfl ?_
  show I_RnE (I_Ex d) i_c93 (0, [some (.int l0), some (.int l1), none, none, none, none], [], i_S X M) _ _
  refine i_rs 6 (cf' := (7, [some (.int l0), some (.int l1), some (.int l0), some (.int l1), some (.int (0 : Int32)), none], [], i_S X M)) rfl ?_
  refine i_fg (lv' := [none, none, some (.int l0), some (.int l1), some (.int (0 : Int32)), none]) (And.intro rfl (And.intro rfl (And.intro rfl True.intro))) ?_
  refine ok_b_commonDivisor_L7 (by omega) i_F l0 l1 (0 : Int32) M _ h
def b_chance (l1 : Int32) (l2 : Int32) (l3 : Int32) (M : I_M) : Option (Int32 × I_M) :=
  Option.bind (b_isSize l1 M) (fun q1 => (if q1.1 = (0 : Int32) then
      some ((-1 : Int32), q1.2)
    else
      Option.bind (b_Land_has l2 q1.2) (fun q3 => (if q3.1 = (0 : Int32) then
        some ((-1 : Int32), q3.2)
      else
        (if l3 < (0 : Int32) then
          some ((-1 : Int32), q3.2)
        else
          (if (1 : Int32) < l3 then
            some ((-1 : Int32), q3.2)
          else
            Option.bind (b_Search_goThrough l1 (-1 : Int32) q3.2) (fun q7 => i_g l2 25 (Option.bind (b_commonDivisor (q7.1 24 (Int32.toNatClampNeg l2)) (q7.1 22 5) q7) (fun q9 => (if (q7.1 24 (Int32.toNatClampNeg l2)) = (0 : Int32) then
              some (l3, q9.2)
            else
              (if q9.1 = (0 : Int32) then
                some (l3, q9.2)
              else
                (if l3 = (0 : Int32) then
                  i_nz q9.1 (some (((q7.1 24 (Int32.toNatClampNeg l2)) / q9.1), q9.2))
                else
                  i_nz q9.1 (some (((q9.2.1 22 5) / q9.1), q9.2))))))))))))))
theorem ok_b_chance {X : Nat × (Nat → Int32)} {d : Nat} {l1 : Int32} {l2 : Int32} {l3 : Int32} {M : I_M} {r : (Int32 × I_M)} (hd : 7 ≤ d) (h : b_chance l1 l2 l3 M = some r) : I_Ex d 92 [.ref 0, .int l1, .int l2, .int l3] (i_S X M) (some (.int r.1)) (i_S X r.2) := by
  obtain ⟨d, rfl⟩ : ∃ d1, d = d1 + 1 := ⟨d - 1, by omega⟩
  unfold b_chance at h
  refine i_ex (e := i_r92) (lv := [some (.ref 0), some (.int l1), some (.int l2), some (.int l3), none, none]) rfl (Nat.le_of_ble_eq_true rfl) rfl ?_
  show I_RnE (I_Ex d) i_c92 (0, [some (.ref 0), some (.int l1), some (.int l2), some (.int l3), none, none], [], i_S X M) _ _
  refine i_rs 1 (cf' := (1, [some (.ref 0), some (.int l1), some (.int l2), some (.int l3), none, none], [.int l1], i_S X M)) rfl ?_
  obtain ⟨q1, hq1, h⟩ := i_bdE h
  refine i_rcall (k := 81) (as := [.int l1]) (cf1 := (4, [some (.ref 0), some (.int l1), some (.int l2), some (.int l3), none, none], [], i_S X M)) (cf' := (4, [some (.ref 0), some (.int l1), some (.int l2), some (.int l3), none, none], [.int q1.1], i_S X q1.2)) rfl (ok_b_isSize (by omega) hq1) rfl ?_
  by_cases c2 : q1.1 = (0 : Int32)
  · replace h := (if_pos c2).symm.trans h
    refine i_rbT (c := q1.1 = (0 : Int32)) (t := 27) (n := 7) rfl c2 ?_
    refine i_rs 1 (cf' := (28, [some (.ref 0), some (.int l1), some (.int l2), some (.int l3), none, none], [.int (-1 : Int32)], i_S X q1.2)) rfl ?_
    obtain rfl := Option.some.inj h
    exact i_rret rfl rfl
  · replace h := (if_neg c2).symm.trans h
    refine i_rbF (c := q1.1 = (0 : Int32)) (t := 27) (n := 7) rfl c2 ?_
    refine i_rs 3 (cf' := (12, [some (.ref 0), some (.int l1), some (.int l2), some (.int l3), none, none], [.int l2, .ref 1], i_S X q1.2)) rfl ?_
    obtain ⟨q3, hq3, h⟩ := i_bdE h
    refine i_rcall (k := 20) (as := [.ref 1, .int l2]) (cf1 := (15, [some (.ref 0), some (.int l1), some (.int l2), some (.int l3), none, none], [], i_S X q1.2)) (cf' := (15, [some (.ref 0), some (.int l1), some (.int l2), some (.int l3), none, none], [.int q3.1], i_S X q3.2)) rfl (ok_b_Land_has (by omega) hq3) rfl ?_
    by_cases c4 : q3.1 = (0 : Int32)
    · replace h := (if_pos c4).symm.trans h
      refine i_rbT (c := q3.1 = (0 : Int32)) (t := 27) (n := 18) rfl c4 ?_
      refine i_rs 1 (cf' := (28, [some (.ref 0), some (.int l1), some (.int l2), some (.int l3), none, none], [.int (-1 : Int32)], i_S X q3.2)) rfl ?_
      obtain rfl := Option.some.inj h
      exact i_rret rfl rfl
    · replace h := (if_neg c4).symm.trans h
      refine i_rbF (c := q3.1 = (0 : Int32)) (t := 27) (n := 18) rfl c4 ?_
      refine i_rs 1 (cf' := (19, [some (.ref 0), some (.int l1), some (.int l2), some (.int l3), none, none], [.int l3], i_S X q3.2)) rfl ?_
      by_cases c5 : l3 < (0 : Int32)
      · replace h := (if_pos c5).symm.trans h
        refine i_rbT (c := l3 < (0 : Int32)) (t := 27) (n := 22) rfl c5 ?_
        refine i_rs 1 (cf' := (28, [some (.ref 0), some (.int l1), some (.int l2), some (.int l3), none, none], [.int (-1 : Int32)], i_S X q3.2)) rfl ?_
        obtain rfl := Option.some.inj h
        exact i_rret rfl rfl
      · replace h := (if_neg c5).symm.trans h
        refine i_rbF (c := l3 < (0 : Int32)) (t := 27) (n := 22) rfl c5 ?_
        refine i_rs 2 (cf' := (24, [some (.ref 0), some (.int l1), some (.int l2), some (.int l3), none, none], [.int (1 : Int32), .int l3], i_S X q3.2)) rfl ?_
        by_cases c6 : (1 : Int32) < l3
        · replace h := (if_pos c6).symm.trans h
          refine i_rbT (c := (1 : Int32) < l3) (t := 27) (n := 29) rfl c6 ?_
          refine i_rs 1 (cf' := (28, [some (.ref 0), some (.int l1), some (.int l2), some (.int l3), none, none], [.int (-1 : Int32)], i_S X q3.2)) rfl ?_
          obtain rfl := Option.some.inj h
          exact i_rret rfl rfl
        · replace h := (if_neg c6).symm.trans h
          refine i_rbF (c := (1 : Int32) < l3) (t := 27) (n := 29) rfl c6 ?_
          refine i_rs 4 (cf' := (35, [some (.ref 0), some (.int l1), some (.int l2), some (.int l3), none, none], [.int (-1 : Int32), .int l1, .ref 22], i_S X q3.2)) rfl ?_
          obtain ⟨q7, hq7, h⟩ := i_bdE h
          refine i_rcall (k := 82) (as := [.ref 22, .int l1, .int (-1 : Int32)]) (cf1 := (38, [some (.ref 0), some (.int l1), some (.int l2), some (.int l3), none, none], [], i_S X q3.2)) (cf' := (38, [some (.ref 0), some (.int l1), some (.int l2), some (.int l3), none, none], [], i_S X q7)) rfl (ok_b_Search_goThrough (by omega) hq7) rfl ?_
          refine i_rs 4 (cf' := (46, [some (.ref 0), some (.int l1), some (.int l2), some (.int l3), none, none], [.int l2, .ref 24], i_S X q7)) rfl ?_
          obtain ⟨g8, h⟩ := i_gE h
          refine i_riald (n := 25) (cf' := (47, [some (.ref 0), some (.int l1), some (.int l2), some (.int l3), none, none], [.int (q7.1 24 (Int32.toNatClampNeg l2))], i_S X q7)) rfl rfl (by decide) g8 rfl ?_
          refine i_rs 5 (cf' := (58, [some (.ref 0), some (.int l1), some (.int l2), some (.int l3), some (.int (q7.1 24 (Int32.toNatClampNeg l2))), none], [.int (q7.1 22 5), .int (q7.1 24 (Int32.toNatClampNeg l2))], i_S X q7)) rfl ?_
          obtain ⟨q9, hq9, h⟩ := i_bdE h
          refine i_rcall (k := 93) (as := [.int (q7.1 24 (Int32.toNatClampNeg l2)), .int (q7.1 22 5)]) (cf1 := (61, [some (.ref 0), some (.int l1), some (.int l2), some (.int l3), some (.int (q7.1 24 (Int32.toNatClampNeg l2))), none], [], i_S X q7)) (cf' := (61, [some (.ref 0), some (.int l1), some (.int l2), some (.int l3), some (.int (q7.1 24 (Int32.toNatClampNeg l2))), none], [.int q9.1], i_S X q9.2)) rfl (ok_b_commonDivisor (by omega) hq9) rfl ?_
          refine i_rs 2 (cf' := (65, [some (.ref 0), some (.int l1), some (.int l2), some (.int l3), some (.int (q7.1 24 (Int32.toNatClampNeg l2))), some (.int q9.1)], [.int (q7.1 24 (Int32.toNatClampNeg l2))], i_S X q9.2)) rfl ?_
          by_cases c10 : (q7.1 24 (Int32.toNatClampNeg l2)) = (0 : Int32)
          · replace h := (if_pos c10).symm.trans h
            refine i_rbT (c := (q7.1 24 (Int32.toNatClampNeg l2)) = (0 : Int32)) (t := 73) (n := 68) rfl c10 ?_
            refine i_rs 1 (cf' := (74, [some (.ref 0), some (.int l1), some (.int l2), some (.int l3), some (.int (q7.1 24 (Int32.toNatClampNeg l2))), some (.int q9.1)], [.int l3], i_S X q9.2)) rfl ?_
            obtain rfl := Option.some.inj h
            exact i_rret rfl rfl
          · replace h := (if_neg c10).symm.trans h
            refine i_rbF (c := (q7.1 24 (Int32.toNatClampNeg l2)) = (0 : Int32)) (t := 73) (n := 68) rfl c10 ?_
            refine i_rs 1 (cf' := (70, [some (.ref 0), some (.int l1), some (.int l2), some (.int l3), some (.int (q7.1 24 (Int32.toNatClampNeg l2))), some (.int q9.1)], [.int q9.1], i_S X q9.2)) rfl ?_
            by_cases c11 : q9.1 = (0 : Int32)
            · replace h := (if_pos c11).symm.trans h
              refine i_rbT (c := q9.1 = (0 : Int32)) (t := 73) (n := 75) rfl c11 ?_
              refine i_rs 1 (cf' := (74, [some (.ref 0), some (.int l1), some (.int l2), some (.int l3), some (.int (q7.1 24 (Int32.toNatClampNeg l2))), some (.int q9.1)], [.int l3], i_S X q9.2)) rfl ?_
              obtain rfl := Option.some.inj h
              exact i_rret rfl rfl
            · replace h := (if_neg c11).symm.trans h
              refine i_rbF (c := q9.1 = (0 : Int32)) (t := 73) (n := 75) rfl c11 ?_
              refine i_rs 1 (cf' := (76, [some (.ref 0), some (.int l1), some (.int l2), some (.int l3), some (.int (q7.1 24 (Int32.toNatClampNeg l2))), some (.int q9.1)], [.int l3], i_S X q9.2)) rfl ?_
              by_cases c12 : l3 = (0 : Int32)
              · replace h := (if_pos c12).symm.trans h
                refine i_rbT (c := l3 = (0 : Int32)) (t := 79) (n := 84) rfl c12 ?_
                refine i_rs 3 (cf' := (93, [some (.ref 0), some (.int l1), some (.int l2), some (.int l3), some (.int (q7.1 24 (Int32.toNatClampNeg l2))), some (.int q9.1)], [.int q9.1, .int (q7.1 24 (Int32.toNatClampNeg l2))], i_S X q9.2)) rfl ?_
                obtain ⟨g13, h⟩ := i_nzE h
                refine i_rdiv (cf' := (94, [some (.ref 0), some (.int l1), some (.int l2), some (.int l3), some (.int (q7.1 24 (Int32.toNatClampNeg l2))), some (.int q9.1)], [.int ((q7.1 24 (Int32.toNatClampNeg l2)) / q9.1)], i_S X q9.2)) rfl g13 rfl ?_
                obtain rfl := Option.some.inj h
                exact i_rret rfl rfl
              · replace h := (if_neg c12).symm.trans h
                refine i_rbF (c := l3 = (0 : Int32)) (t := 79) (n := 84) rfl c12 ?_
                refine i_rs 4 (cf' := (93, [some (.ref 0), some (.int l1), some (.int l2), some (.int l3), some (.int (q7.1 24 (Int32.toNatClampNeg l2))), some (.int q9.1)], [.int q9.1, .int (q9.2.1 22 5)], i_S X q9.2)) rfl ?_
                obtain ⟨g14, h⟩ := i_nzE h
                refine i_rdiv (cf' := (94, [some (.ref 0), some (.int l1), some (.int l2), some (.int l3), some (.int (q7.1 24 (Int32.toNatClampNeg l2))), some (.int q9.1)], [.int ((q9.2.1 22 5) / q9.1)], i_S X q9.2)) rfl g14 rfl ?_
                obtain rfl := Option.some.inj h
                exact i_rret rfl rfl
def r_common_L4 : Nat → Int32 → Int32 → I_M → Option (Int32 × I_M)
  | 0, _, _, _ => none
  | n + 1, l2, l3, M =>
    (if l3 = (0 : Int32) then
        some (l2, M)
      else
        i_nz l3 ((r_common_L4 n) l3 (i_rem l2 l3) M))
theorem ok_r_common_L4 {X : Nat × (Nat → Int32)} {d : Nat} (hd : 1 ≤ d + 1) : ∀ (n : Nat) (l2 : Int32) (l3 : Int32) (M : I_M) (r : (Int32 × I_M)), r_common_L4 n l2 l3 M = some r → I_RnE (I_Ex d) i_c221 (4, [none, none, some (.int l2), some (.int l3), none], [], i_S X M) (some (.int r.1)) (i_S X r.2) := by
  intro n
  induction n with
  | zero => intro _ _ M r h; cases h
  | succ n hself =>
    intro l2 l3 M r h
    rw [r_common_L4] at h
    refine i_rs 1 (cf' := (5, [none, none, some (.int l2), some (.int l3), none], [.int l3], i_S X M)) rfl ?_
    by_cases c1 : l3 = (0 : Int32)
    · replace h := (if_pos c1).symm.trans h
      refine i_rbT (c := l3 = (0 : Int32)) (t := 21) (n := 8) rfl c1 ?_
      refine i_rs 1 (cf' := (22, [none, none, some (.int l2), some (.int l3), none], [.int l2], i_S X M)) rfl ?_
      obtain rfl := Option.some.inj h
      exact i_rret rfl rfl
    · replace h := (if_neg c1).symm.trans h
      refine i_rbF (c := l3 = (0 : Int32)) (t := 21) (n := 8) rfl c1 ?_
      refine i_rs 2 (cf' := (10, [none, none, some (.int l2), some (.int l3), none], [.int l3, .int l2], i_S X M)) rfl ?_
      obtain ⟨g2, h⟩ := i_nzE h
      refine i_rrem (cf' := (11, [none, none, some (.int l2), some (.int l3), none], [.int (i_rem l2 l3)], i_S X M)) rfl g2 rfl ?_
      refine i_rs 6 (cf' := (4, [none, none, some (.int l3), some (.int (i_rem l2 l3)), some (.int (i_rem l2 l3))], [], i_S X M)) rfl ?_
      refine i_fg (lv' := [none, none, some (.int l3), some (.int (i_rem l2 l3)), none]) (And.intro rfl (And.intro rfl True.intro)) ?_
      exact hself l3 (i_rem l2 l3) M _ h
def r_common (l0 : Int32) (l1 : Int32) (M : I_M) : Option (Int32 × I_M) :=
  r_common_L4 i_F l0 l1 M
theorem ok_r_common {X : Nat × (Nat → Int32)} {d : Nat} {l0 : Int32} {l1 : Int32} {M : I_M} {r : (Int32 × I_M)} (hd : 1 ≤ d) (h : r_common l0 l1 M = some r) : I_Ex d 221 [.int l0, .int l1] (i_S X M) (some (.int r.1)) (i_S X r.2) := by
  obtain ⟨d, rfl⟩ : ∃ d1, d = d1 + 1 := ⟨d - 1, by omega⟩
  unfold r_common at h
  refine i_ex (e := i_r221) (lv := [some (.int l0), some (.int l1), none, none, none]) rfl (Nat.le_of_ble_eq_true rfl) rfl ?_
  show I_RnE (I_Ex d) i_c221 (0, [some (.int l0), some (.int l1), none, none, none], [], i_S X M) _ _
  refine i_rs 4 (cf' := (4, [some (.int l0), some (.int l1), some (.int l0), some (.int l1), none], [], i_S X M)) rfl ?_
  refine i_fg (lv' := [none, none, some (.int l0), some (.int l1), none]) (And.intro rfl (And.intro rfl True.intro)) ?_
  refine ok_r_common_L4 (by omega) i_F l0 l1 M _ h
def r_chance (l1 : Int32) (l2 : Int32) (l3 : Int32) (M : I_M) : Option (Int32 × I_M) :=
  Option.bind (r_isN l1 M) (fun q1 => (if q1.1 = (0 : Int32) then
      some ((-1 : Int32), q1.2)
    else
      Option.bind (r_isCell l2 q1.2) (fun q3 => (if q3.1 = (0 : Int32) then
        some ((-1 : Int32), q3.2)
      else
        Option.bind (r_within (Int32.toInt64 l3) (0 : Int64) (1 : Int64) q3.2) (fun q5 => (if q5.1 = (0 : Int32) then
          some ((-1 : Int32), q5.2)
        else
          Option.bind (r_goesThrough l1 (0 : Int32) q5.2) (fun q7 => i_g l2 25 ((if (q7.1 63 (Int32.toNatClampNeg l2)) = (0 : Int32) then
            some (l3, q7)
          else
            Option.bind (r_common (q7.1 63 (Int32.toNatClampNeg l2)) (q7.1 50 27) q7) (fun q10 => (if l3 = (0 : Int32) then
              i_nz q10.1 (some (((q10.2.1 63 (Int32.toNatClampNeg l2)) / q10.1), q10.2))
            else
              i_nz q10.1 (some (((q10.2.1 50 27) / q10.1), q10.2)))))))))))))
theorem ok_r_chance {X : Nat × (Nat → Int32)} {d : Nat} {l1 : Int32} {l2 : Int32} {l3 : Int32} {M : I_M} {r : (Int32 × I_M)} (hd : 70 ≤ d) (h : r_chance l1 l2 l3 M = some r) : I_Ex d 220 [.ref 50, .int l1, .int l2, .int l3] (i_S X M) (some (.int r.1)) (i_S X r.2) := by
  obtain ⟨d, rfl⟩ : ∃ d1, d = d1 + 1 := ⟨d - 1, by omega⟩
  unfold r_chance at h
  refine i_ex (e := i_r220) (lv := [some (.ref 50), some (.int l1), some (.int l2), some (.int l3), none]) rfl (Nat.le_of_ble_eq_true rfl) rfl ?_
  show I_RnE (I_Ex d) i_c220 (0, [some (.ref 50), some (.int l1), some (.int l2), some (.int l3), none], [], i_S X M) _ _
  refine i_rs 1 (cf' := (1, [some (.ref 50), some (.int l1), some (.int l2), some (.int l3), none], [.int l1], i_S X M)) rfl ?_
  obtain ⟨q1, hq1, h⟩ := i_bdE h
  refine i_rcall (k := 213) (as := [.int l1]) (cf1 := (4, [some (.ref 50), some (.int l1), some (.int l2), some (.int l3), none], [], i_S X M)) (cf' := (4, [some (.ref 50), some (.int l1), some (.int l2), some (.int l3), none], [.int q1.1], i_S X q1.2)) rfl (ok_r_isN (by omega) hq1) rfl ?_
  by_cases c2 : q1.1 = (0 : Int32)
  · replace h := (if_pos c2).symm.trans h
    refine i_rbT (c := q1.1 = (0 : Int32)) (t := 25) (n := 7) rfl c2 ?_
    refine i_rs 1 (cf' := (26, [some (.ref 50), some (.int l1), some (.int l2), some (.int l3), none], [.int (-1 : Int32)], i_S X q1.2)) rfl ?_
    obtain rfl := Option.some.inj h
    exact i_rret rfl rfl
  · replace h := (if_neg c2).symm.trans h
    refine i_rbF (c := q1.1 = (0 : Int32)) (t := 25) (n := 7) rfl c2 ?_
    refine i_rs 2 (cf' := (9, [some (.ref 50), some (.int l1), some (.int l2), some (.int l3), none], [.int l2, .ref 50], i_S X q1.2)) rfl ?_
    obtain ⟨q3, hq3, h⟩ := i_bdE h
    refine i_rcall (k := 183) (as := [.ref 50, .int l2]) (cf1 := (12, [some (.ref 50), some (.int l1), some (.int l2), some (.int l3), none], [], i_S X q1.2)) (cf' := (12, [some (.ref 50), some (.int l1), some (.int l2), some (.int l3), none], [.int q3.1], i_S X q3.2)) rfl (ok_r_isCell (by omega) hq3) rfl ?_
    by_cases c4 : q3.1 = (0 : Int32)
    · replace h := (if_pos c4).symm.trans h
      refine i_rbT (c := q3.1 = (0 : Int32)) (t := 25) (n := 15) rfl c4 ?_
      refine i_rs 1 (cf' := (26, [some (.ref 50), some (.int l1), some (.int l2), some (.int l3), none], [.int (-1 : Int32)], i_S X q3.2)) rfl ?_
      obtain rfl := Option.some.inj h
      exact i_rret rfl rfl
    · replace h := (if_neg c4).symm.trans h
      refine i_rbF (c := q3.1 = (0 : Int32)) (t := 25) (n := 15) rfl c4 ?_
      refine i_rs 4 (cf' := (19, [some (.ref 50), some (.int l1), some (.int l2), some (.int l3), none], [.long (1 : Int64), .long (0 : Int64), .long (Int32.toInt64 l3)], i_S X q3.2)) rfl ?_
      obtain ⟨q5, hq5, h⟩ := i_bdE h
      refine i_rcall (k := 175) (as := [.long (Int32.toInt64 l3), .long (0 : Int64), .long (1 : Int64)]) (cf1 := (22, [some (.ref 50), some (.int l1), some (.int l2), some (.int l3), none], [], i_S X q3.2)) (cf' := (22, [some (.ref 50), some (.int l1), some (.int l2), some (.int l3), none], [.int q5.1], i_S X q5.2)) rfl (ok_r_within (by omega) hq5) rfl ?_
      by_cases c6 : q5.1 = (0 : Int32)
      · replace h := (if_pos c6).symm.trans h
        refine i_rbT (c := q5.1 = (0 : Int32)) (t := 25) (n := 27) rfl c6 ?_
        refine i_rs 1 (cf' := (26, [some (.ref 50), some (.int l1), some (.int l2), some (.int l3), none], [.int (-1 : Int32)], i_S X q5.2)) rfl ?_
        obtain rfl := Option.some.inj h
        exact i_rret rfl rfl
      · replace h := (if_neg c6).symm.trans h
        refine i_rbF (c := q5.1 = (0 : Int32)) (t := 25) (n := 27) rfl c6 ?_
        refine i_rs 3 (cf' := (30, [some (.ref 50), some (.int l1), some (.int l2), some (.int l3), none], [.int (0 : Int32), .int l1, .ref 50], i_S X q5.2)) rfl ?_
        obtain ⟨q7, hq7, h⟩ := i_bdE h
        refine i_rcall (k := 214) (as := [.ref 50, .int l1, .int (0 : Int32)]) (cf1 := (33, [some (.ref 50), some (.int l1), some (.int l2), some (.int l3), none], [], i_S X q5.2)) (cf' := (33, [some (.ref 50), some (.int l1), some (.int l2), some (.int l3), none], [], i_S X q7)) rfl (ok_r_goesThrough (by omega) hq7) rfl ?_
        refine i_rs 3 (cf' := (38, [some (.ref 50), some (.int l1), some (.int l2), some (.int l3), none], [.int l2, .ref 63], i_S X q7)) rfl ?_
        obtain ⟨g8, h⟩ := i_gE h
        refine i_riald (n := 25) (cf' := (39, [some (.ref 50), some (.int l1), some (.int l2), some (.int l3), none], [.int (q7.1 63 (Int32.toNatClampNeg l2))], i_S X q7)) rfl rfl (by decide) g8 rfl ?_
        by_cases c9 : (q7.1 63 (Int32.toNatClampNeg l2)) = (0 : Int32)
        · replace h := (if_pos c9).symm.trans h
          refine i_rbT (c := (q7.1 63 (Int32.toNatClampNeg l2)) = (0 : Int32)) (t := 42) (n := 44) rfl c9 ?_
          refine i_rs 1 (cf' := (43, [some (.ref 50), some (.int l1), some (.int l2), some (.int l3), none], [.int l3], i_S X q7)) rfl ?_
          obtain rfl := Option.some.inj h
          exact i_rret rfl rfl
        · replace h := (if_neg c9).symm.trans h
          refine i_rbF (c := (q7.1 63 (Int32.toNatClampNeg l2)) = (0 : Int32)) (t := 42) (n := 44) rfl c9 ?_
          refine i_rs 3 (cf' := (49, [some (.ref 50), some (.int l1), some (.int l2), some (.int l3), none], [.int l2, .ref 63], i_S X q7)) rfl ?_
          refine i_riald (n := 25) (cf' := (50, [some (.ref 50), some (.int l1), some (.int l2), some (.int l3), none], [.int (q7.1 63 (Int32.toNatClampNeg l2))], i_S X q7)) rfl rfl (by decide) g8 rfl ?_
          refine i_rs 2 (cf' := (54, [some (.ref 50), some (.int l1), some (.int l2), some (.int l3), none], [.int (q7.1 50 27), .int (q7.1 63 (Int32.toNatClampNeg l2))], i_S X q7)) rfl ?_
          obtain ⟨q10, hq10, h⟩ := i_bdE h
          refine i_rcall (k := 221) (as := [.int (q7.1 63 (Int32.toNatClampNeg l2)), .int (q7.1 50 27)]) (cf1 := (57, [some (.ref 50), some (.int l1), some (.int l2), some (.int l3), none], [], i_S X q7)) (cf' := (57, [some (.ref 50), some (.int l1), some (.int l2), some (.int l3), none], [.int q10.1], i_S X q10.2)) rfl (ok_r_common (by omega) hq10) rfl ?_
          refine i_rs 2 (cf' := (60, [some (.ref 50), some (.int l1), some (.int l2), some (.int l3), some (.int q10.1)], [.int l3], i_S X q10.2)) rfl ?_
          by_cases c11 : l3 = (0 : Int32)
          · replace h := (if_pos c11).symm.trans h
            refine i_rbT (c := l3 = (0 : Int32)) (t := 63) (n := 75) rfl c11 ?_
            refine i_rs 3 (cf' := (68, [some (.ref 50), some (.int l1), some (.int l2), some (.int l3), some (.int q10.1)], [.int l2, .ref 63], i_S X q10.2)) rfl ?_
            refine i_riald (n := 25) (cf' := (69, [some (.ref 50), some (.int l1), some (.int l2), some (.int l3), some (.int q10.1)], [.int (q10.2.1 63 (Int32.toNatClampNeg l2))], i_S X q10.2)) rfl rfl (by decide) g8 rfl ?_
            refine i_rs 1 (cf' := (71, [some (.ref 50), some (.int l1), some (.int l2), some (.int l3), some (.int q10.1)], [.int q10.1, .int (q10.2.1 63 (Int32.toNatClampNeg l2))], i_S X q10.2)) rfl ?_
            obtain ⟨g12, h⟩ := i_nzE h
            refine i_rdiv (cf' := (72, [some (.ref 50), some (.int l1), some (.int l2), some (.int l3), some (.int q10.1)], [.int ((q10.2.1 63 (Int32.toNatClampNeg l2)) / q10.1)], i_S X q10.2)) rfl g12 rfl ?_
            refine i_rs 1 (cf' := (82, [some (.ref 50), some (.int l1), some (.int l2), some (.int l3), some (.int q10.1)], [.int ((q10.2.1 63 (Int32.toNatClampNeg l2)) / q10.1)], i_S X q10.2)) rfl ?_
            obtain rfl := Option.some.inj h
            exact i_rret rfl rfl
          · replace h := (if_neg c11).symm.trans h
            refine i_rbF (c := l3 = (0 : Int32)) (t := 63) (n := 75) rfl c11 ?_
            refine i_rs 3 (cf' := (81, [some (.ref 50), some (.int l1), some (.int l2), some (.int l3), some (.int q10.1)], [.int q10.1, .int (q10.2.1 50 27)], i_S X q10.2)) rfl ?_
            obtain ⟨g13, h⟩ := i_nzE h
            refine i_rdiv (cf' := (82, [some (.ref 50), some (.int l1), some (.int l2), some (.int l3), some (.int q10.1)], [.int ((q10.2.1 50 27) / q10.1)], i_S X q10.2)) rfl g13 rfl ?_
            obtain rfl := Option.some.inj h
            exact i_rret rfl rfl
