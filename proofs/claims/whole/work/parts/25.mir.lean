/-! ===== part 25: mirrors and what they say (written by wip/whole/mir.py) ===== -/
def r_ringsAs_b_B36 (rec_r_ringsAs : Int32 → Int32 → I_M → Option (Int32 × I_M)) (l2 : Int32) (M : I_M) : Option (Int32 × I_M) :=
  Option.bind (r_begins (50 : Int32) M) (fun q3 => Option.bind (rec_r_ringsAs (1 : Int32) l2 q3) (fun q4 => Option.bind (r_humsAs 4 (q4.2.1 50 50) (2 : Int32) q4.2) (fun q5 => some ((q4.1 - q5.1), q5.2))))
theorem ok_r_ringsAs_b_B36 {X : Nat × (Nat → Int32)} {d : Nat} {rec_r_ringsAs : Int32 → Int32 → I_M → Option (Int32 × I_M)} {l2 : Int32} {M : I_M} {r : (Int32 × I_M)} {N : Nat} (hN : 10 ≤ N) (hr_r_ringsAs : ∀ (d : Nat), N ≤ d → ∀ (a1 : Int32) (a2 : Int32) (M : I_M) (q : (Int32 × I_M)), rec_r_ringsAs a1 a2 M = some q → I_Ex d 252 [.ref 50, .int a1, .int a2] (i_S X M) (some (.int q.1)) (i_S X q.2)) (hd : N + 1 ≤ d + 1) (h : r_ringsAs_b_B36 rec_r_ringsAs l2 M = some r) : I_RnE (I_Ex d) i_c252 (36, [some (.ref 50), none, some (.int l2), none], [], i_S X M) (some (.int r.1)) (i_S X r.2) := by
  unfold r_ringsAs_b_B36 at h
  refine i_rs 2 (cf' := (39, [some (.ref 50), none, some (.int l2), none], [.int (50 : Int32), .ref 50], i_S X M)) rfl ?_
  obtain ⟨q3, hq3, h⟩ := i_bdE h
  refine i_rcall (k := 250) (as := [.ref 50, .int (50 : Int32)]) (cf1 := (42, [some (.ref 50), none, some (.int l2), none], [], i_S X M)) (cf' := (42, [some (.ref 50), none, some (.int l2), none], [], i_S X q3)) rfl (ok_r_begins (by omega) hq3) rfl ?_
  refine i_rs 3 (cf' := (45, [some (.ref 50), none, some (.int l2), none], [.int l2, .int (1 : Int32), .ref 50], i_S X q3)) rfl ?_
  obtain ⟨q4, hq4, h⟩ := i_bdE h
  refine i_rcall (k := 252) (as := [.ref 50, .int (1 : Int32), .int l2]) (cf1 := (48, [some (.ref 50), none, some (.int l2), none], [], i_S X q3)) (cf' := (48, [some (.ref 50), none, some (.int l2), none], [.int q4.1], i_S X q4.2)) rfl (hr_r_ringsAs _ (by omega) _ _ _ _ hq4) rfl ?_
  refine i_rs 6 (cf' := (56, [some (.ref 50), none, some (.int l2), some (.int q4.1)], [.int (2 : Int32), .int (q4.2.1 50 50), .ref 50, .int q4.1], i_S X q4.2)) rfl ?_
  obtain ⟨q5, hq5, h⟩ := i_bdE h
  refine i_rcall (k := 249) (as := [.ref 50, .int (q4.2.1 50 50), .int (2 : Int32)]) (cf1 := (59, [some (.ref 50), none, some (.int l2), some (.int q4.1)], [.int q4.1], i_S X q4.2)) (cf' := (59, [some (.ref 50), none, some (.int l2), some (.int q4.1)], [.int q5.1, .int q4.1], i_S X q5.2)) rfl (ok_r_humsAs 4 _ (by omega) _ _ _ _ hq5) rfl ?_
  refine i_rs 1 (cf' := (60, [some (.ref 50), none, some (.int l2), some (.int q4.1)], [.int (q4.1 - q5.1)], i_S X q5.2)) rfl ?_
  obtain rfl := Option.some.inj h
  exact i_rret rfl rfl
def r_ringsAs_b_B10 (rec_r_ringsAs : Int32 → Int32 → I_M → Option (Int32 × I_M)) (l2 : Int32) (M : I_M) : Option (Int32 × I_M) :=
  Option.bind (r_begins (40 : Int32) M) (fun q1 => Option.bind (rec_r_ringsAs (2 : Int32) l2 q1) (fun q2 => some ((q2.1 * (3 : Int32)), q2.2)))
theorem ok_r_ringsAs_b_B10 {X : Nat × (Nat → Int32)} {d : Nat} {rec_r_ringsAs : Int32 → Int32 → I_M → Option (Int32 × I_M)} {l2 : Int32} {M : I_M} {r : (Int32 × I_M)} {N : Nat} (hN : 10 ≤ N) (hr_r_ringsAs : ∀ (d : Nat), N ≤ d → ∀ (a1 : Int32) (a2 : Int32) (M : I_M) (q : (Int32 × I_M)), rec_r_ringsAs a1 a2 M = some q → I_Ex d 252 [.ref 50, .int a1, .int a2] (i_S X M) (some (.int q.1)) (i_S X q.2)) (hd : N + 1 ≤ d + 1) (h : r_ringsAs_b_B10 rec_r_ringsAs l2 M = some r) : I_RnE (I_Ex d) i_c252 (10, [some (.ref 50), none, some (.int l2), none], [], i_S X M) (some (.int r.1)) (i_S X r.2) := by
  unfold r_ringsAs_b_B10 at h
  refine i_rs 2 (cf' := (13, [some (.ref 50), none, some (.int l2), none], [.int (40 : Int32), .ref 50], i_S X M)) rfl ?_
  obtain ⟨q1, hq1, h⟩ := i_bdE h
  refine i_rcall (k := 250) (as := [.ref 50, .int (40 : Int32)]) (cf1 := (16, [some (.ref 50), none, some (.int l2), none], [], i_S X M)) (cf' := (16, [some (.ref 50), none, some (.int l2), none], [], i_S X q1)) rfl (ok_r_begins (by omega) hq1) rfl ?_
  refine i_rs 3 (cf' := (19, [some (.ref 50), none, some (.int l2), none], [.int l2, .int (2 : Int32), .ref 50], i_S X q1)) rfl ?_
  obtain ⟨q2, hq2, h⟩ := i_bdE h
  refine i_rcall (k := 252) (as := [.ref 50, .int (2 : Int32), .int l2]) (cf1 := (22, [some (.ref 50), none, some (.int l2), none], [], i_S X q1)) (cf' := (22, [some (.ref 50), none, some (.int l2), none], [.int q2.1], i_S X q2.2)) rfl (hr_r_ringsAs _ (by omega) _ _ _ _ hq2) rfl ?_
  refine i_rs 2 (cf' := (24, [some (.ref 50), none, some (.int l2), none], [.int (q2.1 * (3 : Int32))], i_S X q2.2)) rfl ?_
  obtain rfl := Option.some.inj h
  exact i_rret rfl rfl
def r_ringsAs_b (rec_r_ringsAs : Int32 → Int32 → I_M → Option (Int32 × I_M)) (l1 : Int32) (l2 : Int32) (M : I_M) : Option (Int32 × I_M) :=
  (if l1 = (3 : Int32) then
      r_ringsAs_b_B10 rec_r_ringsAs l2 M
    else
      (if l1 = (5 : Int32) then
        r_ringsAs_b_B10 rec_r_ringsAs l2 M
      else
        (if l1 = (4 : Int32) then
          r_ringsAs_b_B36 rec_r_ringsAs l2 M
        else
          (if l1 = (7 : Int32) then
            r_ringsAs_b_B36 rec_r_ringsAs l2 M
          else
            Option.bind (r_begins (11 : Int32) M) (fun q10 => some ((l2 ^^^ (q10.1 50 51)), q10))))))
theorem ok_r_ringsAs_b {X : Nat × (Nat → Int32)} {d : Nat} {rec_r_ringsAs : Int32 → Int32 → I_M → Option (Int32 × I_M)} {l1 : Int32} {l2 : Int32} {M : I_M} {r : (Int32 × I_M)} {N : Nat} (hN : 10 ≤ N) (hr_r_ringsAs : ∀ (d : Nat), N ≤ d → ∀ (a1 : Int32) (a2 : Int32) (M : I_M) (q : (Int32 × I_M)), rec_r_ringsAs a1 a2 M = some q → I_Ex d 252 [.ref 50, .int a1, .int a2] (i_S X M) (some (.int q.1)) (i_S X q.2)) (hd : N + 1 ≤ d) (h : r_ringsAs_b rec_r_ringsAs l1 l2 M = some r) : I_Ex d 252 [.ref 50, .int l1, .int l2] (i_S X M) (some (.int r.1)) (i_S X r.2) := by
  obtain ⟨d, rfl⟩ : ∃ d1, d = d1 + 1 := ⟨d - 1, by omega⟩
  unfold r_ringsAs_b at h
  refine i_ex (e := i_r252) (lv := [some (.ref 50), some (.int l1), some (.int l2), none]) rfl (Nat.le_of_ble_eq_true rfl) rfl ?_
  show I_RnE (I_Ex d) i_c252 (0, [some (.ref 50), some (.int l1), some (.int l2), none], [], i_S X M) _ _
  refine i_rs 2 (cf' := (2, [some (.ref 50), some (.int l1), some (.int l2), none], [.int (3 : Int32), .int l1], i_S X M)) rfl ?_
  by_cases c6 : l1 = (3 : Int32)
  · replace h := (if_pos c6).symm.trans h
    refine i_rbT (c := l1 = (3 : Int32)) (t := 10) (n := 5) rfl c6 ?_
    refine i_fg (lv' := [some (.ref 50), none, some (.int l2), none]) (And.intro rfl (And.intro rfl True.intro)) ?_
    exact ok_r_ringsAs_b_B10 hN hr_r_ringsAs (by omega) h
  · replace h := (if_neg c6).symm.trans h
    refine i_rbF (c := l1 = (3 : Int32)) (t := 10) (n := 5) rfl c6 ?_
    refine i_rs 2 (cf' := (7, [some (.ref 50), some (.int l1), some (.int l2), none], [.int (5 : Int32), .int l1], i_S X M)) rfl ?_
    by_cases c7 : l1 = (5 : Int32)
    · replace h := (if_pos c7).symm.trans h
      refine i_rbT (c := l1 = (5 : Int32)) (t := 10) (n := 25) rfl c7 ?_
      refine i_fg (lv' := [some (.ref 50), none, some (.int l2), none]) (And.intro rfl (And.intro rfl True.intro)) ?_
      exact ok_r_ringsAs_b_B10 hN hr_r_ringsAs (by omega) h
    · replace h := (if_neg c7).symm.trans h
      refine i_rbF (c := l1 = (5 : Int32)) (t := 10) (n := 25) rfl c7 ?_
      refine i_rs 2 (cf' := (27, [some (.ref 50), some (.int l1), some (.int l2), none], [.int (4 : Int32), .int l1], i_S X M)) rfl ?_
      by_cases c8 : l1 = (4 : Int32)
      · replace h := (if_pos c8).symm.trans h
        refine i_rbT (c := l1 = (4 : Int32)) (t := 36) (n := 30) rfl c8 ?_
        refine i_fg (lv' := [some (.ref 50), none, some (.int l2), none]) (And.intro rfl (And.intro rfl True.intro)) ?_
        exact ok_r_ringsAs_b_B36 hN hr_r_ringsAs (by omega) h
      · replace h := (if_neg c8).symm.trans h
        refine i_rbF (c := l1 = (4 : Int32)) (t := 36) (n := 30) rfl c8 ?_
        refine i_rs 2 (cf' := (33, [some (.ref 50), some (.int l1), some (.int l2), none], [.int (7 : Int32), .int l1], i_S X M)) rfl ?_
        by_cases c9 : l1 = (7 : Int32)
        · replace h := (if_pos c9).symm.trans h
          refine i_rbT (c := l1 = (7 : Int32)) (t := 36) (n := 61) rfl c9 ?_
          refine i_fg (lv' := [some (.ref 50), none, some (.int l2), none]) (And.intro rfl (And.intro rfl True.intro)) ?_
          exact ok_r_ringsAs_b_B36 hN hr_r_ringsAs (by omega) h
        · replace h := (if_neg c9).symm.trans h
          refine i_rbF (c := l1 = (7 : Int32)) (t := 36) (n := 61) rfl c9 ?_
          refine i_rs 2 (cf' := (64, [some (.ref 50), some (.int l1), some (.int l2), none], [.int (11 : Int32), .ref 50], i_S X M)) rfl ?_
          obtain ⟨q10, hq10, h⟩ := i_bdE h
          refine i_rcall (k := 250) (as := [.ref 50, .int (11 : Int32)]) (cf1 := (67, [some (.ref 50), some (.int l1), some (.int l2), none], [], i_S X M)) (cf' := (67, [some (.ref 50), some (.int l1), some (.int l2), none], [], i_S X q10)) rfl (ok_r_begins (by omega) hq10) rfl ?_
          refine i_rs 4 (cf' := (73, [some (.ref 50), some (.int l1), some (.int l2), none], [.int (l2 ^^^ (q10.1 50 51))], i_S X q10)) rfl ?_
          obtain rfl := Option.some.inj h
          exact i_rret rfl rfl
def r_ringsAs : Nat → Int32 → Int32 → I_M → Option (Int32 × I_M)
  | 0, _, _, _ => none
  | n + 1, a1, a2, M => r_ringsAs_b (r_ringsAs n) a1 a2 M
theorem ok_r_ringsAs {X : Nat × (Nat → Int32)} : ∀ (n : Nat), ∀ (d : Nat), 1 * n + 10 ≤ d → ∀ (a1 : Int32) (a2 : Int32) (M : I_M) (q : (Int32 × I_M)), r_ringsAs n a1 a2 M = some q → I_Ex d 252 [.ref 50, .int a1, .int a2] (i_S X M) (some (.int q.1)) (i_S X q.2) := by
  intro n
  induction n with
  | zero => intro d _ _ _ M q h; cases h
  | succ n ih =>
    intro d hd a1 a2 M q h
    rw [r_ringsAs] at h
    exact ok_r_ringsAs_b (N := 1 * n + 10) (by omega) ih (by omega) h
def r_liesAs_b_B10 (rec_r_liesAs : Int32 → Int32 → I_M → Option (Int32 × I_M)) (l2 : Int32) (M : I_M) : Option (Int32 × I_M) :=
  Option.bind (r_begins (41 : Int32) M) (fun q1 => Option.bind (rec_r_liesAs (2 : Int32) (l2 + (1 : Int32)) q1) (fun q2 => some (q2.1, q2.2)))
theorem ok_r_liesAs_b_B10 {X : Nat × (Nat → Int32)} {d : Nat} {rec_r_liesAs : Int32 → Int32 → I_M → Option (Int32 × I_M)} {l2 : Int32} {M : I_M} {r : (Int32 × I_M)} {N : Nat} (hN : 18 ≤ N) (hr_r_liesAs : ∀ (d : Nat), N ≤ d → ∀ (a1 : Int32) (a2 : Int32) (M : I_M) (q : (Int32 × I_M)), rec_r_liesAs a1 a2 M = some q → I_Ex d 251 [.ref 50, .int a1, .int a2] (i_S X M) (some (.int q.1)) (i_S X q.2)) (hd : N + 1 ≤ d + 1) (h : r_liesAs_b_B10 rec_r_liesAs l2 M = some r) : I_RnE (I_Ex d) i_c251 (10, [some (.ref 50), none, some (.int l2), none], [], i_S X M) (some (.int r.1)) (i_S X r.2) := by
  unfold r_liesAs_b_B10 at h
  refine i_rs 2 (cf' := (13, [some (.ref 50), none, some (.int l2), none], [.int (41 : Int32), .ref 50], i_S X M)) rfl ?_
  obtain ⟨q1, hq1, h⟩ := i_bdE h
  refine i_rcall (k := 250) (as := [.ref 50, .int (41 : Int32)]) (cf1 := (16, [some (.ref 50), none, some (.int l2), none], [], i_S X M)) (cf' := (16, [some (.ref 50), none, some (.int l2), none], [], i_S X q1)) rfl (ok_r_begins (by omega) hq1) rfl ?_
  refine i_rs 5 (cf' := (21, [some (.ref 50), none, some (.int l2), none], [.int (l2 + (1 : Int32)), .int (2 : Int32), .ref 50], i_S X q1)) rfl ?_
  obtain ⟨q2, hq2, h⟩ := i_bdE h
  refine i_rcall (k := 251) (as := [.ref 50, .int (2 : Int32), .int (l2 + (1 : Int32))]) (cf1 := (24, [some (.ref 50), none, some (.int l2), none], [], i_S X q1)) (cf' := (24, [some (.ref 50), none, some (.int l2), none], [.int q2.1], i_S X q2.2)) rfl (hr_r_liesAs _ (by omega) _ _ _ _ hq2) rfl ?_
  obtain rfl := Option.some.inj h
  exact i_rret rfl rfl
def r_liesAs_b (rec_r_liesAs : Int32 → Int32 → I_M → Option (Int32 × I_M)) (l1 : Int32) (l2 : Int32) (M : I_M) : Option (Int32 × I_M) :=
  (if l1 = (3 : Int32) then
      r_liesAs_b_B10 rec_r_liesAs l2 M
    else
      (if l1 = (5 : Int32) then
        r_liesAs_b_B10 rec_r_liesAs l2 M
      else
        (if l1 = (2 : Int32) then
          Option.bind (r_begins (30 : Int32) M) (fun q6 => Option.bind (rec_r_liesAs (0 : Int32) l2 q6) (fun q7 => some ((-q7.1), q7.2)))
        else
          (if l1 = (7 : Int32) then
            Option.bind (r_begins (80 : Int32) M) (fun q9 => Option.bind (rec_r_liesAs (4 : Int32) l2 q9) (fun q10 => Option.bind (r_ringsAs 8 (q10.2.1 50 50) (2 : Int32) q10.2) (fun q11 => some ((q10.1 + q11.1), q11.2))))
          else
            Option.bind (r_begins (10 : Int32) M) (fun q12 => Option.bind (r_humsAs 4 (q12.1 50 50) l2 q12) (fun q13 => some ((q13.1 * (2 : Int32)), q13.2)))))))
theorem ok_r_liesAs_b {X : Nat × (Nat → Int32)} {d : Nat} {rec_r_liesAs : Int32 → Int32 → I_M → Option (Int32 × I_M)} {l1 : Int32} {l2 : Int32} {M : I_M} {r : (Int32 × I_M)} {N : Nat} (hN : 18 ≤ N) (hr_r_liesAs : ∀ (d : Nat), N ≤ d → ∀ (a1 : Int32) (a2 : Int32) (M : I_M) (q : (Int32 × I_M)), rec_r_liesAs a1 a2 M = some q → I_Ex d 251 [.ref 50, .int a1, .int a2] (i_S X M) (some (.int q.1)) (i_S X q.2)) (hd : N + 1 ≤ d) (h : r_liesAs_b rec_r_liesAs l1 l2 M = some r) : I_Ex d 251 [.ref 50, .int l1, .int l2] (i_S X M) (some (.int r.1)) (i_S X r.2) := by
  obtain ⟨d, rfl⟩ : ∃ d1, d = d1 + 1 := ⟨d - 1, by omega⟩
  unfold r_liesAs_b at h
  refine i_ex (e := i_r251) (lv := [some (.ref 50), some (.int l1), some (.int l2), none]) rfl (Nat.le_of_ble_eq_true rfl) rfl ?_
  show I_RnE (I_Ex d) i_c251 (0, [some (.ref 50), some (.int l1), some (.int l2), none], [], i_S X M) _ _
  refine i_rs 2 (cf' := (2, [some (.ref 50), some (.int l1), some (.int l2), none], [.int (3 : Int32), .int l1], i_S X M)) rfl ?_
  by_cases c3 : l1 = (3 : Int32)
  · replace h := (if_pos c3).symm.trans h
    refine i_rbT (c := l1 = (3 : Int32)) (t := 10) (n := 5) rfl c3 ?_
    refine i_fg (lv' := [some (.ref 50), none, some (.int l2), none]) (And.intro rfl (And.intro rfl True.intro)) ?_
    exact ok_r_liesAs_b_B10 hN hr_r_liesAs (by omega) h
  · replace h := (if_neg c3).symm.trans h
    refine i_rbF (c := l1 = (3 : Int32)) (t := 10) (n := 5) rfl c3 ?_
    refine i_rs 2 (cf' := (7, [some (.ref 50), some (.int l1), some (.int l2), none], [.int (5 : Int32), .int l1], i_S X M)) rfl ?_
    by_cases c4 : l1 = (5 : Int32)
    · replace h := (if_pos c4).symm.trans h
      refine i_rbT (c := l1 = (5 : Int32)) (t := 10) (n := 25) rfl c4 ?_
      refine i_fg (lv' := [some (.ref 50), none, some (.int l2), none]) (And.intro rfl (And.intro rfl True.intro)) ?_
      exact ok_r_liesAs_b_B10 hN hr_r_liesAs (by omega) h
    · replace h := (if_neg c4).symm.trans h
      refine i_rbF (c := l1 = (5 : Int32)) (t := 10) (n := 25) rfl c4 ?_
      refine i_rs 2 (cf' := (27, [some (.ref 50), some (.int l1), some (.int l2), none], [.int (2 : Int32), .int l1], i_S X M)) rfl ?_
      by_cases c5 : l1 = (2 : Int32)
      · replace h := (if_pos c5).symm.trans h
        refine i_rbT (c := l1 = (2 : Int32)) (t := 30) (n := 44) rfl c5 ?_
        refine i_rs 2 (cf' := (33, [some (.ref 50), some (.int l1), some (.int l2), none], [.int (30 : Int32), .ref 50], i_S X M)) rfl ?_
        obtain ⟨q6, hq6, h⟩ := i_bdE h
        refine i_rcall (k := 250) (as := [.ref 50, .int (30 : Int32)]) (cf1 := (36, [some (.ref 50), some (.int l1), some (.int l2), none], [], i_S X M)) (cf' := (36, [some (.ref 50), some (.int l1), some (.int l2), none], [], i_S X q6)) rfl (ok_r_begins (by omega) hq6) rfl ?_
        refine i_rs 3 (cf' := (39, [some (.ref 50), some (.int l1), some (.int l2), none], [.int l2, .int (0 : Int32), .ref 50], i_S X q6)) rfl ?_
        obtain ⟨q7, hq7, h⟩ := i_bdE h
        refine i_rcall (k := 251) (as := [.ref 50, .int (0 : Int32), .int l2]) (cf1 := (42, [some (.ref 50), some (.int l1), some (.int l2), none], [], i_S X q6)) (cf' := (42, [some (.ref 50), some (.int l1), some (.int l2), none], [.int q7.1], i_S X q7.2)) rfl (hr_r_liesAs _ (by omega) _ _ _ _ hq7) rfl ?_
        refine i_rs 1 (cf' := (43, [some (.ref 50), some (.int l1), some (.int l2), none], [.int (-q7.1)], i_S X q7.2)) rfl ?_
        obtain rfl := Option.some.inj h
        exact i_rret rfl rfl
      · replace h := (if_neg c5).symm.trans h
        refine i_rbF (c := l1 = (2 : Int32)) (t := 30) (n := 44) rfl c5 ?_
        refine i_rs 2 (cf' := (47, [some (.ref 50), some (.int l1), some (.int l2), none], [.int (7 : Int32), .int l1], i_S X M)) rfl ?_
        by_cases c8 : l1 = (7 : Int32)
        · replace h := (if_pos c8).symm.trans h
          refine i_rbT (c := l1 = (7 : Int32)) (t := 50) (n := 75) rfl c8 ?_
          refine i_rs 2 (cf' := (53, [some (.ref 50), some (.int l1), some (.int l2), none], [.int (80 : Int32), .ref 50], i_S X M)) rfl ?_
          obtain ⟨q9, hq9, h⟩ := i_bdE h
          refine i_rcall (k := 250) (as := [.ref 50, .int (80 : Int32)]) (cf1 := (56, [some (.ref 50), some (.int l1), some (.int l2), none], [], i_S X M)) (cf' := (56, [some (.ref 50), some (.int l1), some (.int l2), none], [], i_S X q9)) rfl (ok_r_begins (by omega) hq9) rfl ?_
          refine i_rs 3 (cf' := (59, [some (.ref 50), some (.int l1), some (.int l2), none], [.int l2, .int (4 : Int32), .ref 50], i_S X q9)) rfl ?_
          obtain ⟨q10, hq10, h⟩ := i_bdE h
          refine i_rcall (k := 251) (as := [.ref 50, .int (4 : Int32), .int l2]) (cf1 := (62, [some (.ref 50), some (.int l1), some (.int l2), none], [], i_S X q9)) (cf' := (62, [some (.ref 50), some (.int l1), some (.int l2), none], [.int q10.1], i_S X q10.2)) rfl (hr_r_liesAs _ (by omega) _ _ _ _ hq10) rfl ?_
          refine i_rs 6 (cf' := (70, [some (.ref 50), some (.int l1), some (.int l2), some (.int q10.1)], [.int (2 : Int32), .int (q10.2.1 50 50), .ref 50, .int q10.1], i_S X q10.2)) rfl ?_
          obtain ⟨q11, hq11, h⟩ := i_bdE h
          refine i_rcall (k := 252) (as := [.ref 50, .int (q10.2.1 50 50), .int (2 : Int32)]) (cf1 := (73, [some (.ref 50), some (.int l1), some (.int l2), some (.int q10.1)], [.int q10.1], i_S X q10.2)) (cf' := (73, [some (.ref 50), some (.int l1), some (.int l2), some (.int q10.1)], [.int q11.1, .int q10.1], i_S X q11.2)) rfl (ok_r_ringsAs 8 _ (by omega) _ _ _ _ hq11) rfl ?_
          refine i_rs 1 (cf' := (74, [some (.ref 50), some (.int l1), some (.int l2), some (.int q10.1)], [.int (q10.1 + q11.1)], i_S X q11.2)) rfl ?_
          obtain rfl := Option.some.inj h
          exact i_rret rfl rfl
        · replace h := (if_neg c8).symm.trans h
          refine i_rbF (c := l1 = (7 : Int32)) (t := 50) (n := 75) rfl c8 ?_
          refine i_rs 2 (cf' := (78, [some (.ref 50), some (.int l1), some (.int l2), none], [.int (10 : Int32), .ref 50], i_S X M)) rfl ?_
          obtain ⟨q12, hq12, h⟩ := i_bdE h
          refine i_rcall (k := 250) (as := [.ref 50, .int (10 : Int32)]) (cf1 := (81, [some (.ref 50), some (.int l1), some (.int l2), none], [], i_S X M)) (cf' := (81, [some (.ref 50), some (.int l1), some (.int l2), none], [], i_S X q12)) rfl (ok_r_begins (by omega) hq12) rfl ?_
          refine i_rs 4 (cf' := (87, [some (.ref 50), some (.int l1), some (.int l2), none], [.int l2, .int (q12.1 50 50), .ref 50], i_S X q12)) rfl ?_
          obtain ⟨q13, hq13, h⟩ := i_bdE h
          refine i_rcall (k := 249) (as := [.ref 50, .int (q12.1 50 50), .int l2]) (cf1 := (90, [some (.ref 50), some (.int l1), some (.int l2), none], [], i_S X q12)) (cf' := (90, [some (.ref 50), some (.int l1), some (.int l2), none], [.int q13.1], i_S X q13.2)) rfl (ok_r_humsAs 4 _ (by omega) _ _ _ _ hq13) rfl ?_
          refine i_rs 2 (cf' := (92, [some (.ref 50), some (.int l1), some (.int l2), none], [.int (q13.1 * (2 : Int32))], i_S X q13.2)) rfl ?_
          obtain rfl := Option.some.inj h
          exact i_rret rfl rfl
def r_liesAs : Nat → Int32 → Int32 → I_M → Option (Int32 × I_M)
  | 0, _, _, _ => none
  | n + 1, a1, a2, M => r_liesAs_b (r_liesAs n) a1 a2 M
theorem ok_r_liesAs {X : Nat × (Nat → Int32)} : ∀ (n : Nat), ∀ (d : Nat), 1 * n + 18 ≤ d → ∀ (a1 : Int32) (a2 : Int32) (M : I_M) (q : (Int32 × I_M)), r_liesAs n a1 a2 M = some q → I_Ex d 251 [.ref 50, .int a1, .int a2] (i_S X M) (some (.int q.1)) (i_S X q.2) := by
  intro n
  induction n with
  | zero => intro d _ _ _ M q h; cases h
  | succ n ih =>
    intro d hd a1 a2 M q h
    rw [r_liesAs] at h
    exact ok_r_liesAs_b (N := 1 * n + 18) (by omega) ih (by omega) h
def r_tellsAs_b (rec_r_tellsAs : Int32 → Int32 → I_M → Option (Int32 × I_M)) (l1 : Int32) (l2 : Int32) (M : I_M) : Option (Int32 × I_M) :=
  (if l1 = (5 : Int32) then
      Option.bind (r_begins (60 : Int32) M) (fun q2 => Option.bind (rec_r_tellsAs (3 : Int32) l2 q2) (fun q3 => some ((q3.1 ^^^ (5 : Int32)), q3.2)))
    else
      (if l1 = (7 : Int32) then
        Option.bind (r_begins (81 : Int32) M) (fun q5 => Option.bind (rec_r_tellsAs (4 : Int32) l2 q5) (fun q6 => some ((q6.1 - (1 : Int32)), q6.2)))
      else
        Option.bind (r_begins (2 : Int32) M) (fun q7 => Option.bind (r_liesAs 8 (q7.1 50 50) l2 q7) (fun q8 => Option.bind (r_ringsAs 8 (q8.2.1 50 50) (1 : Int32) q8.2) (fun q9 => some ((q8.1 - q9.1), q9.2))))))
theorem ok_r_tellsAs_b {X : Nat × (Nat → Int32)} {d : Nat} {rec_r_tellsAs : Int32 → Int32 → I_M → Option (Int32 × I_M)} {l1 : Int32} {l2 : Int32} {M : I_M} {r : (Int32 × I_M)} {N : Nat} (hN : 26 ≤ N) (hr_r_tellsAs : ∀ (d : Nat), N ≤ d → ∀ (a1 : Int32) (a2 : Int32) (M : I_M) (q : (Int32 × I_M)), rec_r_tellsAs a1 a2 M = some q → I_Ex d 253 [.ref 50, .int a1, .int a2] (i_S X M) (some (.int q.1)) (i_S X q.2)) (hd : N + 1 ≤ d) (h : r_tellsAs_b rec_r_tellsAs l1 l2 M = some r) : I_Ex d 253 [.ref 50, .int l1, .int l2] (i_S X M) (some (.int r.1)) (i_S X r.2) := by
  obtain ⟨d, rfl⟩ : ∃ d1, d = d1 + 1 := ⟨d - 1, by omega⟩
  unfold r_tellsAs_b at h
  refine i_ex (e := i_r253) (lv := [some (.ref 50), some (.int l1), some (.int l2), none]) rfl (Nat.le_of_ble_eq_true rfl) rfl ?_
  show I_RnE (I_Ex d) i_c253 (0, [some (.ref 50), some (.int l1), some (.int l2), none], [], i_S X M) _ _
  refine i_rs 2 (cf' := (2, [some (.ref 50), some (.int l1), some (.int l2), none], [.int (5 : Int32), .int l1], i_S X M)) rfl ?_
  by_cases c1 : l1 = (5 : Int32)
  · replace h := (if_pos c1).symm.trans h
    refine i_rbT (c := l1 = (5 : Int32)) (t := 5) (n := 20) rfl c1 ?_
    refine i_rs 2 (cf' := (8, [some (.ref 50), some (.int l1), some (.int l2), none], [.int (60 : Int32), .ref 50], i_S X M)) rfl ?_
    obtain ⟨q2, hq2, h⟩ := i_bdE h
    refine i_rcall (k := 250) (as := [.ref 50, .int (60 : Int32)]) (cf1 := (11, [some (.ref 50), some (.int l1), some (.int l2), none], [], i_S X M)) (cf' := (11, [some (.ref 50), some (.int l1), some (.int l2), none], [], i_S X q2)) rfl (ok_r_begins (by omega) hq2) rfl ?_
    refine i_rs 3 (cf' := (14, [some (.ref 50), some (.int l1), some (.int l2), none], [.int l2, .int (3 : Int32), .ref 50], i_S X q2)) rfl ?_
    obtain ⟨q3, hq3, h⟩ := i_bdE h
    refine i_rcall (k := 253) (as := [.ref 50, .int (3 : Int32), .int l2]) (cf1 := (17, [some (.ref 50), some (.int l1), some (.int l2), none], [], i_S X q2)) (cf' := (17, [some (.ref 50), some (.int l1), some (.int l2), none], [.int q3.1], i_S X q3.2)) rfl (hr_r_tellsAs _ (by omega) _ _ _ _ hq3) rfl ?_
    refine i_rs 2 (cf' := (19, [some (.ref 50), some (.int l1), some (.int l2), none], [.int (q3.1 ^^^ (5 : Int32))], i_S X q3.2)) rfl ?_
    obtain rfl := Option.some.inj h
    exact i_rret rfl rfl
  · replace h := (if_neg c1).symm.trans h
    refine i_rbF (c := l1 = (5 : Int32)) (t := 5) (n := 20) rfl c1 ?_
    refine i_rs 2 (cf' := (23, [some (.ref 50), some (.int l1), some (.int l2), none], [.int (7 : Int32), .int l1], i_S X M)) rfl ?_
    by_cases c4 : l1 = (7 : Int32)
    · replace h := (if_pos c4).symm.trans h
      refine i_rbT (c := l1 = (7 : Int32)) (t := 26) (n := 41) rfl c4 ?_
      refine i_rs 2 (cf' := (29, [some (.ref 50), some (.int l1), some (.int l2), none], [.int (81 : Int32), .ref 50], i_S X M)) rfl ?_
      obtain ⟨q5, hq5, h⟩ := i_bdE h
      refine i_rcall (k := 250) (as := [.ref 50, .int (81 : Int32)]) (cf1 := (32, [some (.ref 50), some (.int l1), some (.int l2), none], [], i_S X M)) (cf' := (32, [some (.ref 50), some (.int l1), some (.int l2), none], [], i_S X q5)) rfl (ok_r_begins (by omega) hq5) rfl ?_
      refine i_rs 3 (cf' := (35, [some (.ref 50), some (.int l1), some (.int l2), none], [.int l2, .int (4 : Int32), .ref 50], i_S X q5)) rfl ?_
      obtain ⟨q6, hq6, h⟩ := i_bdE h
      refine i_rcall (k := 253) (as := [.ref 50, .int (4 : Int32), .int l2]) (cf1 := (38, [some (.ref 50), some (.int l1), some (.int l2), none], [], i_S X q5)) (cf' := (38, [some (.ref 50), some (.int l1), some (.int l2), none], [.int q6.1], i_S X q6.2)) rfl (hr_r_tellsAs _ (by omega) _ _ _ _ hq6) rfl ?_
      refine i_rs 2 (cf' := (40, [some (.ref 50), some (.int l1), some (.int l2), none], [.int (q6.1 - (1 : Int32))], i_S X q6.2)) rfl ?_
      obtain rfl := Option.some.inj h
      exact i_rret rfl rfl
    · replace h := (if_neg c4).symm.trans h
      refine i_rbF (c := l1 = (7 : Int32)) (t := 26) (n := 41) rfl c4 ?_
      refine i_rs 2 (cf' := (43, [some (.ref 50), some (.int l1), some (.int l2), none], [.int (2 : Int32), .ref 50], i_S X M)) rfl ?_
      obtain ⟨q7, hq7, h⟩ := i_bdE h
      refine i_rcall (k := 250) (as := [.ref 50, .int (2 : Int32)]) (cf1 := (46, [some (.ref 50), some (.int l1), some (.int l2), none], [], i_S X M)) (cf' := (46, [some (.ref 50), some (.int l1), some (.int l2), none], [], i_S X q7)) rfl (ok_r_begins (by omega) hq7) rfl ?_
      refine i_rs 4 (cf' := (52, [some (.ref 50), some (.int l1), some (.int l2), none], [.int l2, .int (q7.1 50 50), .ref 50], i_S X q7)) rfl ?_
      obtain ⟨q8, hq8, h⟩ := i_bdE h
      refine i_rcall (k := 251) (as := [.ref 50, .int (q7.1 50 50), .int l2]) (cf1 := (55, [some (.ref 50), some (.int l1), some (.int l2), none], [], i_S X q7)) (cf' := (55, [some (.ref 50), some (.int l1), some (.int l2), none], [.int q8.1], i_S X q8.2)) rfl (ok_r_liesAs 8 _ (by omega) _ _ _ _ hq8) rfl ?_
      refine i_rs 6 (cf' := (63, [some (.ref 50), some (.int l1), some (.int l2), some (.int q8.1)], [.int (1 : Int32), .int (q8.2.1 50 50), .ref 50, .int q8.1], i_S X q8.2)) rfl ?_
      obtain ⟨q9, hq9, h⟩ := i_bdE h
      refine i_rcall (k := 252) (as := [.ref 50, .int (q8.2.1 50 50), .int (1 : Int32)]) (cf1 := (66, [some (.ref 50), some (.int l1), some (.int l2), some (.int q8.1)], [.int q8.1], i_S X q8.2)) (cf' := (66, [some (.ref 50), some (.int l1), some (.int l2), some (.int q8.1)], [.int q9.1, .int q8.1], i_S X q9.2)) rfl (ok_r_ringsAs 8 _ (by omega) _ _ _ _ hq9) rfl ?_
      refine i_rs 1 (cf' := (67, [some (.ref 50), some (.int l1), some (.int l2), some (.int q8.1)], [.int (q8.1 - q9.1)], i_S X q9.2)) rfl ?_
      obtain rfl := Option.some.inj h
      exact i_rret rfl rfl
def r_tellsAs : Nat → Int32 → Int32 → I_M → Option (Int32 × I_M)
  | 0, _, _, _ => none
  | n + 1, a1, a2, M => r_tellsAs_b (r_tellsAs n) a1 a2 M
theorem ok_r_tellsAs {X : Nat × (Nat → Int32)} : ∀ (n : Nat), ∀ (d : Nat), 1 * n + 26 ≤ d → ∀ (a1 : Int32) (a2 : Int32) (M : I_M) (q : (Int32 × I_M)), r_tellsAs n a1 a2 M = some q → I_Ex d 253 [.ref 50, .int a1, .int a2] (i_S X M) (some (.int q.1)) (i_S X q.2) := by
  intro n
  induction n with
  | zero => intro d _ _ _ M q h; cases h
  | succ n ih =>
    intro d hd a1 a2 M q h
    rw [r_tellsAs] at h
    exact ok_r_tellsAs_b (N := 1 * n + 26) (by omega) ih (by omega) h
def r_act (l1 : Int32) (l2 : Int32) (l3 : Int32) (M : I_M) : Option (Int32 × I_M) :=
  Option.bind (r_isBody l1 (i_wI M 50 49 (0 : Int32))) (fun q1 => (if q1.1 = (0 : Int32) then
      some ((0 : Int32), q1.2)
    else
      i_g l1 50 ((if l2 = (0 : Int32) then
        Option.bind (r_humsAs 4 (q1.2.1 68 (Int32.toNatClampNeg l1)) l3 (i_wI (i_wI q1.2 50 50 (q1.2.1 68 (Int32.toNatClampNeg l1))) 50 51 l1)) (fun q5 => some (q5.1, q5.2))
      else
        (if l2 = (1 : Int32) then
          Option.bind (r_liesAs 8 (q1.2.1 68 (Int32.toNatClampNeg l1)) l3 (i_wI (i_wI q1.2 50 50 (q1.2.1 68 (Int32.toNatClampNeg l1))) 50 51 l1)) (fun q7 => some (q7.1, q7.2))
        else
          (if l2 = (2 : Int32) then
            Option.bind (r_ringsAs 8 (q1.2.1 68 (Int32.toNatClampNeg l1)) l3 (i_wI (i_wI q1.2 50 50 (q1.2.1 68 (Int32.toNatClampNeg l1))) 50 51 l1)) (fun q9 => some (q9.1, q9.2))
          else
            (if l2 = (3 : Int32) then
              Option.bind (r_tellsAs 8 (q1.2.1 68 (Int32.toNatClampNeg l1)) l3 (i_wI (i_wI q1.2 50 50 (q1.2.1 68 (Int32.toNatClampNeg l1))) 50 51 l1)) (fun q11 => some (q11.1, q11.2))
            else
              some ((0 : Int32), (i_wI (i_wI q1.2 50 50 (q1.2.1 68 (Int32.toNatClampNeg l1))) 50 51 l1)))))))))
theorem ok_r_act {X : Nat × (Nat → Int32)} {d : Nat} {l1 : Int32} {l2 : Int32} {l3 : Int32} {M : I_M} {r : (Int32 × I_M)} (hd : 35 ≤ d) (h : r_act l1 l2 l3 M = some r) : I_Ex d 247 [.ref 50, .int l1, .int l2, .int l3] (i_S X M) (some (.int r.1)) (i_S X r.2) := by
  obtain ⟨d, rfl⟩ : ∃ d1, d = d1 + 1 := ⟨d - 1, by omega⟩
  unfold r_act at h
  refine i_ex (e := i_r247) (lv := [some (.ref 50), some (.int l1), some (.int l2), some (.int l3)]) rfl (Nat.le_of_ble_eq_true rfl) rfl ?_
  show I_RnE (I_Ex d) i_c247 (0, [some (.ref 50), some (.int l1), some (.int l2), some (.int l3)], [], i_S X M) _ _
  refine i_rs 5 (cf' := (7, [some (.ref 50), some (.int l1), some (.int l2), some (.int l3)], [.int l1, .ref 50], i_S X (i_wI M 50 49 (0 : Int32)))) rfl ?_
  obtain ⟨q1, hq1, h⟩ := i_bdE h
  refine i_rcall (k := 248) (as := [.ref 50, .int l1]) (cf1 := (10, [some (.ref 50), some (.int l1), some (.int l2), some (.int l3)], [], i_S X (i_wI M 50 49 (0 : Int32)))) (cf' := (10, [some (.ref 50), some (.int l1), some (.int l2), some (.int l3)], [.int q1.1], i_S X q1.2)) rfl (ok_r_isBody (by omega) hq1) rfl ?_
  by_cases c2 : q1.1 = (0 : Int32)
  · replace h := (if_pos c2).symm.trans h
    refine i_rbT (c := q1.1 = (0 : Int32)) (t := 13) (n := 15) rfl c2 ?_
    refine i_rs 1 (cf' := (14, [some (.ref 50), some (.int l1), some (.int l2), some (.int l3)], [.int (0 : Int32)], i_S X q1.2)) rfl ?_
    obtain rfl := Option.some.inj h
    exact i_rret rfl rfl
  · replace h := (if_neg c2).symm.trans h
    refine i_rbF (c := q1.1 = (0 : Int32)) (t := 13) (n := 15) rfl c2 ?_
    refine i_rs 4 (cf' := (21, [some (.ref 50), some (.int l1), some (.int l2), some (.int l3)], [.int l1, .ref 68, .ref 50], i_S X q1.2)) rfl ?_
    obtain ⟨g3, h⟩ := i_gE h
    refine i_riald (n := 50) (cf' := (22, [some (.ref 50), some (.int l1), some (.int l2), some (.int l3)], [.int (q1.2.1 68 (Int32.toNatClampNeg l1)), .ref 50], i_S X q1.2)) rfl rfl (by decide) g3 rfl ?_
    refine i_rs 5 (cf' := (31, [some (.ref 50), some (.int l1), some (.int l2), some (.int l3)], [.int l2], i_S X (i_wI (i_wI q1.2 50 50 (q1.2.1 68 (Int32.toNatClampNeg l1))) 50 51 l1))) rfl ?_
    refine i_stp1 (cf' := (i_sw l2 100 [(0, 60), (1, 70), (2, 80), (3, 90)], [some (.ref 50), some (.int l1), some (.int l2), some (.int l3)], [], i_S X (i_wI (i_wI q1.2 50 50 (q1.2.1 68 (Int32.toNatClampNeg l1))) 50 51 l1))) rfl ?_
    by_cases c4 : l2 = (0 : Int32)
    · replace h := (if_pos c4).symm.trans h
      refine i_rswT c4 ?_
      refine i_rs 4 (cf' := (66, [some (.ref 50), some (.int l1), some (.int l2), some (.int l3)], [.int l3, .int (q1.2.1 68 (Int32.toNatClampNeg l1)), .ref 50], i_S X (i_wI (i_wI q1.2 50 50 (q1.2.1 68 (Int32.toNatClampNeg l1))) 50 51 l1))) rfl ?_
      obtain ⟨q5, hq5, h⟩ := i_bdE h
      refine i_rcall (k := 249) (as := [.ref 50, .int (q1.2.1 68 (Int32.toNatClampNeg l1)), .int l3]) (cf1 := (69, [some (.ref 50), some (.int l1), some (.int l2), some (.int l3)], [], i_S X (i_wI (i_wI q1.2 50 50 (q1.2.1 68 (Int32.toNatClampNeg l1))) 50 51 l1))) (cf' := (69, [some (.ref 50), some (.int l1), some (.int l2), some (.int l3)], [.int q5.1], i_S X q5.2)) rfl (ok_r_humsAs 4 _ (by omega) _ _ _ _ hq5) rfl ?_
      obtain rfl := Option.some.inj h
      exact i_rret rfl rfl
    · replace h := (if_neg c4).symm.trans h
      refine i_rswF c4 ?_
      by_cases c6 : l2 = (1 : Int32)
      · replace h := (if_pos c6).symm.trans h
        refine i_rswT c6 ?_
        refine i_rs 4 (cf' := (76, [some (.ref 50), some (.int l1), some (.int l2), some (.int l3)], [.int l3, .int (q1.2.1 68 (Int32.toNatClampNeg l1)), .ref 50], i_S X (i_wI (i_wI q1.2 50 50 (q1.2.1 68 (Int32.toNatClampNeg l1))) 50 51 l1))) rfl ?_
        obtain ⟨q7, hq7, h⟩ := i_bdE h
        refine i_rcall (k := 251) (as := [.ref 50, .int (q1.2.1 68 (Int32.toNatClampNeg l1)), .int l3]) (cf1 := (79, [some (.ref 50), some (.int l1), some (.int l2), some (.int l3)], [], i_S X (i_wI (i_wI q1.2 50 50 (q1.2.1 68 (Int32.toNatClampNeg l1))) 50 51 l1))) (cf' := (79, [some (.ref 50), some (.int l1), some (.int l2), some (.int l3)], [.int q7.1], i_S X q7.2)) rfl (ok_r_liesAs 8 _ (by omega) _ _ _ _ hq7) rfl ?_
        obtain rfl := Option.some.inj h
        exact i_rret rfl rfl
      · replace h := (if_neg c6).symm.trans h
        refine i_rswF c6 ?_
        by_cases c8 : l2 = (2 : Int32)
        · replace h := (if_pos c8).symm.trans h
          refine i_rswT c8 ?_
          refine i_rs 4 (cf' := (86, [some (.ref 50), some (.int l1), some (.int l2), some (.int l3)], [.int l3, .int (q1.2.1 68 (Int32.toNatClampNeg l1)), .ref 50], i_S X (i_wI (i_wI q1.2 50 50 (q1.2.1 68 (Int32.toNatClampNeg l1))) 50 51 l1))) rfl ?_
          obtain ⟨q9, hq9, h⟩ := i_bdE h
          refine i_rcall (k := 252) (as := [.ref 50, .int (q1.2.1 68 (Int32.toNatClampNeg l1)), .int l3]) (cf1 := (89, [some (.ref 50), some (.int l1), some (.int l2), some (.int l3)], [], i_S X (i_wI (i_wI q1.2 50 50 (q1.2.1 68 (Int32.toNatClampNeg l1))) 50 51 l1))) (cf' := (89, [some (.ref 50), some (.int l1), some (.int l2), some (.int l3)], [.int q9.1], i_S X q9.2)) rfl (ok_r_ringsAs 8 _ (by omega) _ _ _ _ hq9) rfl ?_
          obtain rfl := Option.some.inj h
          exact i_rret rfl rfl
        · replace h := (if_neg c8).symm.trans h
          refine i_rswF c8 ?_
          by_cases c10 : l2 = (3 : Int32)
          · replace h := (if_pos c10).symm.trans h
            refine i_rswT c10 ?_
            refine i_rs 4 (cf' := (96, [some (.ref 50), some (.int l1), some (.int l2), some (.int l3)], [.int l3, .int (q1.2.1 68 (Int32.toNatClampNeg l1)), .ref 50], i_S X (i_wI (i_wI q1.2 50 50 (q1.2.1 68 (Int32.toNatClampNeg l1))) 50 51 l1))) rfl ?_
            obtain ⟨q11, hq11, h⟩ := i_bdE h
            refine i_rcall (k := 253) (as := [.ref 50, .int (q1.2.1 68 (Int32.toNatClampNeg l1)), .int l3]) (cf1 := (99, [some (.ref 50), some (.int l1), some (.int l2), some (.int l3)], [], i_S X (i_wI (i_wI q1.2 50 50 (q1.2.1 68 (Int32.toNatClampNeg l1))) 50 51 l1))) (cf' := (99, [some (.ref 50), some (.int l1), some (.int l2), some (.int l3)], [.int q11.1], i_S X q11.2)) rfl (ok_r_tellsAs 8 _ (by omega) _ _ _ _ hq11) rfl ?_
            obtain rfl := Option.some.inj h
            exact i_rret rfl rfl
          · replace h := (if_neg c10).symm.trans h
            refine i_rswF c10 ?_
            refine i_rs 1 (cf' := (101, [some (.ref 50), some (.int l1), some (.int l2), some (.int l3)], [.int (0 : Int32)], i_S X (i_wI (i_wI q1.2 50 50 (q1.2.1 68 (Int32.toNatClampNeg l1))) 50 51 l1))) rfl ?_
            obtain rfl := Option.some.inj h
            exact i_rret rfl rfl
def b_Bodies_traced (M : I_M) : Option (Int32 × I_M) :=
  some ((i_min (M.1 38 3) (24 : Int32)), M)
theorem ok_b_Bodies_traced {X : Nat × (Nat → Int32)} {d : Nat} {M : I_M} {r : (Int32 × I_M)} (hd : 1 ≤ d) (h : b_Bodies_traced M = some r) : I_Ex d 153 [.ref 38] (i_S X M) (some (.int r.1)) (i_S X r.2) := by
  obtain ⟨d, rfl⟩ : ∃ d1, d = d1 + 1 := ⟨d - 1, by omega⟩
  unfold b_Bodies_traced at h
  refine i_ex (e := i_r153) (lv := [some (.ref 38)]) rfl (Nat.le_of_ble_eq_true rfl) rfl ?_
  show I_RnE (I_Ex d) i_c153 (0, [some (.ref 38)], [], i_S X M) _ _
  refine i_rs 4 (cf' := (9, [some (.ref 38)], [.int (i_min (M.1 38 3) (24 : Int32))], i_S X M)) rfl ?_
  obtain rfl := Option.some.inj h
  exact i_rret rfl rfl
def b_trace (l1 : Int32) (M : I_M) : Option (Int32 × I_M) :=
  (if l1 < (0 : Int32) then
      some ((-1 : Int32), M)
    else
      Option.bind (b_Bodies_traced M) (fun q2 => (if l1 < q2.1 then
        i_g l1 24 (some ((q2.2.1 40 (Int32.toNatClampNeg l1)), q2.2))
      else
        some ((-1 : Int32), q2.2))))
theorem ok_b_trace {X : Nat × (Nat → Int32)} {d : Nat} {l1 : Int32} {M : I_M} {r : (Int32 × I_M)} (hd : 2 ≤ d) (h : b_trace l1 M = some r) : I_Ex d 152 [.ref 0, .int l1] (i_S X M) (some (.int r.1)) (i_S X r.2) := by
  obtain ⟨d, rfl⟩ : ∃ d1, d = d1 + 1 := ⟨d - 1, by omega⟩
  unfold b_trace at h
  refine i_ex (e := i_r152) (lv := [some (.ref 0), some (.int l1)]) rfl (Nat.le_of_ble_eq_true rfl) rfl ?_
  show I_RnE (I_Ex d) i_c152 (0, [some (.ref 0), some (.int l1)], [], i_S X M) _ _
  refine i_rs 1 (cf' := (1, [some (.ref 0), some (.int l1)], [.int l1], i_S X M)) rfl ?_
  by_cases c1 : l1 < (0 : Int32)
  · replace h := (if_pos c1).symm.trans h
    refine i_rbT (c := l1 < (0 : Int32)) (t := 27) (n := 4) rfl c1 ?_
    refine i_rs 1 (cf' := (28, [some (.ref 0), some (.int l1)], [.int (-1 : Int32)], i_S X M)) rfl ?_
    obtain rfl := Option.some.inj h
    exact i_rret rfl rfl
  · replace h := (if_neg c1).symm.trans h
    refine i_rbF (c := l1 < (0 : Int32)) (t := 27) (n := 4) rfl c1 ?_
    refine i_rs 3 (cf' := (9, [some (.ref 0), some (.int l1)], [.ref 38, .int l1], i_S X M)) rfl ?_
    obtain ⟨q2, hq2, h⟩ := i_bdE h
    refine i_rcall (k := 153) (as := [.ref 38]) (cf1 := (12, [some (.ref 0), some (.int l1)], [.int l1], i_S X M)) (cf' := (12, [some (.ref 0), some (.int l1)], [.int q2.1, .int l1], i_S X q2.2)) rfl (ok_b_Bodies_traced (by omega) hq2) rfl ?_
    by_cases c3 : l1 < q2.1
    · replace h := (if_pos c3).symm.trans h
      refine i_rbT (c := l1 < q2.1) (t := 15) (n := 27) rfl c3 ?_
      refine i_rs 4 (cf' := (23, [some (.ref 0), some (.int l1)], [.int l1, .ref 40], i_S X q2.2)) rfl ?_
      obtain ⟨g4, h⟩ := i_gE h
      refine i_riald (n := 24) (cf' := (24, [some (.ref 0), some (.int l1)], [.int (q2.2.1 40 (Int32.toNatClampNeg l1))], i_S X q2.2)) rfl rfl (by decide) g4 rfl ?_
      refine i_rs 1 (cf' := (28, [some (.ref 0), some (.int l1)], [.int (q2.2.1 40 (Int32.toNatClampNeg l1))], i_S X q2.2)) rfl ?_
      obtain rfl := Option.some.inj h
      exact i_rret rfl rfl
    · replace h := (if_neg c3).symm.trans h
      refine i_rbF (c := l1 < q2.1) (t := 15) (n := 27) rfl c3 ?_
      refine i_rs 1 (cf' := (28, [some (.ref 0), some (.int l1)], [.int (-1 : Int32)], i_S X q2.2)) rfl ?_
      obtain rfl := Option.some.inj h
      exact i_rret rfl rfl
def r_trace (l1 : Int32) (M : I_M) : Option (Int32 × I_M) :=
  (if l1 < (0 : Int32) then
      some ((-1 : Int32), M)
    else
      (if l1 < (M.1 50 49) then
        (if l1 < (24 : Int32) then
          i_g l1 24 (some ((M.1 69 (Int32.toNatClampNeg l1)), M))
        else
          some ((-1 : Int32), M))
      else
        some ((-1 : Int32), M)))
theorem ok_r_trace {X : Nat × (Nat → Int32)} {d : Nat} {l1 : Int32} {M : I_M} {r : (Int32 × I_M)} (hd : 1 ≤ d) (h : r_trace l1 M = some r) : I_Ex d 254 [.ref 50, .int l1] (i_S X M) (some (.int r.1)) (i_S X r.2) := by
  obtain ⟨d, rfl⟩ : ∃ d1, d = d1 + 1 := ⟨d - 1, by omega⟩
  unfold r_trace at h
  refine i_ex (e := i_r254) (lv := [some (.ref 50), some (.int l1)]) rfl (Nat.le_of_ble_eq_true rfl) rfl ?_
  show I_RnE (I_Ex d) i_c254 (0, [some (.ref 50), some (.int l1)], [], i_S X M) _ _
  refine i_rs 1 (cf' := (1, [some (.ref 50), some (.int l1)], [.int l1], i_S X M)) rfl ?_
  by_cases c1 : l1 < (0 : Int32)
  · replace h := (if_pos c1).symm.trans h
    refine i_rbT (c := l1 < (0 : Int32)) (t := 27) (n := 4) rfl c1 ?_
    refine i_rs 1 (cf' := (28, [some (.ref 50), some (.int l1)], [.int (-1 : Int32)], i_S X M)) rfl ?_
    obtain rfl := Option.some.inj h
    exact i_rret rfl rfl
  · replace h := (if_neg c1).symm.trans h
    refine i_rbF (c := l1 < (0 : Int32)) (t := 27) (n := 4) rfl c1 ?_
    refine i_rs 3 (cf' := (9, [some (.ref 50), some (.int l1)], [.int (M.1 50 49), .int l1], i_S X M)) rfl ?_
    by_cases c2 : l1 < (M.1 50 49)
    · replace h := (if_pos c2).symm.trans h
      refine i_rbT (c := l1 < (M.1 50 49)) (t := 12) (n := 27) rfl c2 ?_
      refine i_rs 2 (cf' := (15, [some (.ref 50), some (.int l1)], [.int (24 : Int32), .int l1], i_S X M)) rfl ?_
      by_cases c3 : l1 < (24 : Int32)
      · replace h := (if_pos c3).symm.trans h
        refine i_rbT (c := l1 < (24 : Int32)) (t := 18) (n := 27) rfl c3 ?_
        refine i_rs 3 (cf' := (23, [some (.ref 50), some (.int l1)], [.int l1, .ref 69], i_S X M)) rfl ?_
        obtain ⟨g4, h⟩ := i_gE h
        refine i_riald (n := 24) (cf' := (24, [some (.ref 50), some (.int l1)], [.int (M.1 69 (Int32.toNatClampNeg l1))], i_S X M)) rfl rfl (by decide) g4 rfl ?_
        refine i_rs 1 (cf' := (28, [some (.ref 50), some (.int l1)], [.int (M.1 69 (Int32.toNatClampNeg l1))], i_S X M)) rfl ?_
        obtain rfl := Option.some.inj h
        exact i_rret rfl rfl
      · replace h := (if_neg c3).symm.trans h
        refine i_rbF (c := l1 < (24 : Int32)) (t := 18) (n := 27) rfl c3 ?_
        refine i_rs 1 (cf' := (28, [some (.ref 50), some (.int l1)], [.int (-1 : Int32)], i_S X M)) rfl ?_
        obtain rfl := Option.some.inj h
        exact i_rret rfl rfl
    · replace h := (if_neg c2).symm.trans h
      refine i_rbF (c := l1 < (M.1 50 49)) (t := 12) (n := 27) rfl c2 ?_
      refine i_rs 1 (cf' := (28, [some (.ref 50), some (.int l1)], [.int (-1 : Int32)], i_S X M)) rfl ?_
      obtain rfl := Option.some.inj h
      exact i_rret rfl rfl
def j_rangeCheck (l0 : Int32) (l1 : Int32) (l2 : Int32) (M : I_M) : Option I_M :=
  (if l2 < l1 then
      none
    else
      (if l1 < (0 : Int32) then
        none
      else
        (if l0 < l2 then
          none
        else
          some M)))
theorem ok_j_rangeCheck {X : Nat × (Nat → Int32)} {d : Nat} {l0 : Int32} {l1 : Int32} {l2 : Int32} {M : I_M} {r : I_M} (hd : 1 ≤ d) (h : j_rangeCheck l0 l1 l2 M = some r) : I_Ex d 157 [.int l0, .int l1, .int l2] (i_S X M) none (i_S X r) := by
  obtain ⟨d, rfl⟩ : ∃ d1, d = d1 + 1 := ⟨d - 1, by omega⟩
  unfold j_rangeCheck at h
  refine i_ex (e := i_r157) (lv := [some (.int l0), some (.int l1), some (.int l2)]) rfl (Nat.le_of_ble_eq_true rfl) rfl ?_
  show I_RnE (I_Ex d) i_c157 (0, [some (.int l0), some (.int l1), some (.int l2)], [], i_S X M) _ _
  refine i_rs 2 (cf' := (2, [some (.int l0), some (.int l1), some (.int l2)], [.int l2, .int l1], i_S X M)) rfl ?_
  by_cases c1 : l2 < l1
  · replace h := (if_pos c1).symm.trans h
    refine i_rbT (c := l2 < l1) (t := 5) (n := 46) rfl c1 ?_
    cases h
  · replace h := (if_neg c1).symm.trans h
    refine i_rbF (c := l2 < l1) (t := 5) (n := 46) rfl c1 ?_
    refine i_rs 1 (cf' := (47, [some (.int l0), some (.int l1), some (.int l2)], [.int l1], i_S X M)) rfl ?_
    by_cases c2 : l1 < (0 : Int32)
    · replace h := (if_pos c2).symm.trans h
      refine i_rbT (c := l1 < (0 : Int32)) (t := 50) (n := 59) rfl c2 ?_
      cases h
    · replace h := (if_neg c2).symm.trans h
      refine i_rbF (c := l1 < (0 : Int32)) (t := 50) (n := 59) rfl c2 ?_
      refine i_rs 2 (cf' := (61, [some (.int l0), some (.int l1), some (.int l2)], [.int l0, .int l2], i_S X M)) rfl ?_
      by_cases c3 : l0 < l2
      · replace h := (if_pos c3).symm.trans h
        refine i_rbT (c := l0 < l2) (t := 64) (n := 73) rfl c3 ?_
        cases h
      · replace h := (if_neg c3).symm.trans h
        refine i_rbF (c := l0 < l2) (t := 64) (n := 73) rfl c3 ?_
        obtain rfl := Option.some.inj h
        exact i_rret rfl rfl
def j_fillL_45_L10 (l2 : Int32) (l3 : Int64) : Nat → Int32 → I_M → Option I_M
  | 0, _, _ => none
  | n + 1, l5, M =>
    (if l5 < l2 then
        i_g l5 360 ((j_fillL_45_L10 l2 l3 n) (l5 + (1 : Int32)) (i_wL M 45 (Int32.toNatClampNeg l5) l3))
      else
        some M)
theorem ok_j_fillL_45_L10 {X : Nat × (Nat → Int32)} {d : Nat} {l2 : Int32} {l3 : Int64} (hd : 2 ≤ d + 1) : ∀ (n : Nat) (l5 : Int32) (M : I_M) (r : I_M), j_fillL_45_L10 l2 l3 n l5 M = some r → I_RnE (I_Ex d) i_c156 (10, [some (.ref 45), none, some (.int l2), some (.long l3), none, some (.int l5)], [], i_S X M) none (i_S X r) := by
  intro n
  induction n with
  | zero => intro _ M r h; cases h
  | succ n hself =>
    intro l5 M r h
    rw [j_fillL_45_L10] at h
    refine i_rs 2 (cf' := (13, [some (.ref 45), none, some (.int l2), some (.long l3), none, some (.int l5)], [.int l2, .int l5], i_S X M)) rfl ?_
    by_cases c1 : l5 < l2
    · replace h := (if_pos c1).symm.trans h
      refine i_rbT (c := l5 < l2) (t := 16) (n := 27) rfl c1 ?_
      refine i_rs 3 (cf' := (20, [some (.ref 45), none, some (.int l2), some (.long l3), none, some (.int l5)], [.long l3, .int l5, .ref 45], i_S X M)) rfl ?_
      obtain ⟨g2, h⟩ := i_gE h
      refine i_rlast (n := 360) (cf' := (21, [some (.ref 45), none, some (.int l2), some (.long l3), none, some (.int l5)], [], i_S X (i_wL M 45 (Int32.toNatClampNeg l5) l3))) rfl rfl g2 rfl ?_
      refine i_rs 2 (cf' := (10, [some (.ref 45), none, some (.int l2), some (.long l3), none, some (.int (l5 + (1 : Int32)))], [], i_S X (i_wL M 45 (Int32.toNatClampNeg l5) l3))) rfl ?_
      refine i_fg (lv' := [some (.ref 45), none, some (.int l2), some (.long l3), none, some (.int (l5 + (1 : Int32)))]) (And.intro rfl (And.intro rfl (And.intro rfl (And.intro rfl True.intro)))) ?_
      exact hself (l5 + (1 : Int32)) (i_wL M 45 (Int32.toNatClampNeg l5) l3) _ h
    · replace h := (if_neg c1).symm.trans h
      refine i_rbF (c := l5 < l2) (t := 16) (n := 27) rfl c1 ?_
      obtain rfl := Option.some.inj h
      exact i_rret rfl rfl
def j_fillL_45 (l1 : Int32) (l2 : Int32) (l3 : Int64) (M : I_M) : Option I_M :=
  Option.bind (j_rangeCheck (360 : Int32) l1 l2 M) (fun q3 => j_fillL_45_L10 l2 l3 i_F l1 q3)
theorem ok_j_fillL_45 {X : Nat × (Nat → Int32)} {d : Nat} {l1 : Int32} {l2 : Int32} {l3 : Int64} {M : I_M} {r : I_M} (hd : 2 ≤ d) (h : j_fillL_45 l1 l2 l3 M = some r) : I_Ex d 156 [.ref 45, .int l1, .int l2, .long l3] (i_S X M) none (i_S X r) := by
  obtain ⟨d, rfl⟩ : ∃ d1, d = d1 + 1 := ⟨d - 1, by omega⟩
  unfold j_fillL_45 at h
  refine i_ex (e := i_r156) (lv := [some (.ref 45), some (.int l1), some (.int l2), some (.long l3), none, none]) rfl (Nat.le_of_ble_eq_true rfl) rfl ?_
  show I_RnE (I_Ex d) i_c156 (0, [some (.ref 45), some (.int l1), some (.int l2), some (.long l3), none, none], [], i_S X M) _ _
  refine i_rs 4 (cf' := (4, [some (.ref 45), some (.int l1), some (.int l2), some (.long l3), none, none], [.int l2, .int l1, .int (360 : Int32)], i_S X M)) rfl ?_
  obtain ⟨q3, hq3, h⟩ := i_bdE h
  refine i_rcall (k := 157) (as := [.int (360 : Int32), .int l1, .int l2]) (cf1 := (7, [some (.ref 45), some (.int l1), some (.int l2), some (.long l3), none, none], [], i_S X M)) (cf' := (7, [some (.ref 45), some (.int l1), some (.int l2), some (.long l3), none, none], [], i_S X q3)) rfl (ok_j_rangeCheck (by omega) hq3) rfl ?_
  refine i_rs 2 (cf' := (10, [some (.ref 45), some (.int l1), some (.int l2), some (.long l3), none, some (.int l1)], [], i_S X q3)) rfl ?_
  refine i_fg (lv' := [some (.ref 45), none, some (.int l2), some (.long l3), none, some (.int l1)]) (And.intro rfl (And.intro rfl (And.intro rfl (And.intro rfl True.intro)))) ?_
  refine ok_j_fillL_45_L10 (by omega) i_F l1 q3 _ h
def b_Shelves_hold (l1 : Int32) (l2 : Int32) (l3 : Int32) (M : I_M) : Option I_M :=
  i_g l1 6 (Option.bind (j_fillL_45 (l1 * (60 : Int32)) ((l1 * (60 : Int32)) + l3) (0 : Int64) (i_wI (i_wI M 42 (Int32.toNatClampNeg l1) l2) 43 (Int32.toNatClampNeg l1) l3)) (fun q2 => some q2))
theorem ok_b_Shelves_hold {X : Nat × (Nat → Int32)} {d : Nat} {l1 : Int32} {l2 : Int32} {l3 : Int32} {M : I_M} {r : I_M} (hd : 3 ≤ d) (h : b_Shelves_hold l1 l2 l3 M = some r) : I_Ex d 155 [.ref 41, .int l1, .int l2, .int l3] (i_S X M) none (i_S X r) := by
  obtain ⟨d, rfl⟩ : ∃ d1, d = d1 + 1 := ⟨d - 1, by omega⟩
  unfold b_Shelves_hold at h
  refine i_ex (e := i_r155) (lv := [some (.ref 41), some (.int l1), some (.int l2), some (.int l3)]) rfl (Nat.le_of_ble_eq_true rfl) rfl ?_
  show I_RnE (I_Ex d) i_c155 (0, [some (.ref 41), some (.int l1), some (.int l2), some (.int l3)], [], i_S X M) _ _
  refine i_rs 4 (cf' := (6, [some (.ref 41), some (.int l1), some (.int l2), some (.int l3)], [.int l2, .int l1, .ref 42], i_S X M)) rfl ?_
  obtain ⟨g1, h⟩ := i_gE h
  refine i_riast (n := 6) (cf' := (7, [some (.ref 41), some (.int l1), some (.int l2), some (.int l3)], [], i_S X (i_wI M 42 (Int32.toNatClampNeg l1) l2))) rfl rfl (Or.inl rfl) g1 rfl ?_
  refine i_rs 4 (cf' := (13, [some (.ref 41), some (.int l1), some (.int l2), some (.int l3)], [.int l3, .int l1, .ref 43], i_S X (i_wI M 42 (Int32.toNatClampNeg l1) l2))) rfl ?_
  refine i_riast (n := 6) (cf' := (14, [some (.ref 41), some (.int l1), some (.int l2), some (.int l3)], [], i_S X (i_wI (i_wI M 42 (Int32.toNatClampNeg l1) l2) 43 (Int32.toNatClampNeg l1) l3))) rfl rfl (Or.inl rfl) g1 rfl ?_
  refine i_rs 11 (cf' := (29, [some (.ref 41), some (.int l1), some (.int l2), some (.int l3)], [.long (0 : Int64), .int ((l1 * (60 : Int32)) + l3), .int (l1 * (60 : Int32)), .ref 45], i_S X (i_wI (i_wI M 42 (Int32.toNatClampNeg l1) l2) 43 (Int32.toNatClampNeg l1) l3))) rfl ?_
  obtain ⟨q2, hq2, h⟩ := i_bdE h
  refine i_rcall (k := 156) (as := [.ref 45, .int (l1 * (60 : Int32)), .int ((l1 * (60 : Int32)) + l3), .long (0 : Int64)]) (cf1 := (32, [some (.ref 41), some (.int l1), some (.int l2), some (.int l3)], [], i_S X (i_wI (i_wI M 42 (Int32.toNatClampNeg l1) l2) 43 (Int32.toNatClampNeg l1) l3))) (cf' := (32, [some (.ref 41), some (.int l1), some (.int l2), some (.int l3)], [], i_S X q2)) rfl (ok_j_fillL_45 (by omega) hq2) rfl ?_
  obtain rfl := Option.some.inj h
  exact i_rret rfl rfl
def b_keep_B44 (l1 : Int32) (l2 : Int32) (s0 : Int32) (s1 : Int32) (M : I_M) : Option (Int32 × I_M) :=
  Option.bind (b_Shelves_hold s0 s1 (0 : Int32) M) (fun q1 => i_g l1 6 (some ((1 : Int32), (i_wI q1 44 (Int32.toNatClampNeg l1) l2))))
theorem ok_b_keep_B44 {X : Nat × (Nat → Int32)} {d : Nat} {l1 : Int32} {l2 : Int32} {s0 : Int32} {s1 : Int32} {M : I_M} {r : (Int32 × I_M)} (hd : 4 ≤ d + 1) (h : b_keep_B44 l1 l2 s0 s1 M = some r) : I_RnE (I_Ex d) i_c154 (44, [some (.ref 0), some (.int l1), some (.int l2)], [.int s1, .int s0, .ref 41], i_S X M) (some (.int r.1)) (i_S X r.2) := by
  unfold b_keep_B44 at h
  refine i_rs 1 (cf' := (45, [some (.ref 0), some (.int l1), some (.int l2)], [.int (0 : Int32), .int s1, .int s0, .ref 41], i_S X M)) rfl ?_
  obtain ⟨q1, hq1, h⟩ := i_bdE h
  refine i_rcall (k := 155) (as := [.ref 41, .int s0, .int s1, .int (0 : Int32)]) (cf1 := (48, [some (.ref 0), some (.int l1), some (.int l2)], [], i_S X M)) (cf' := (48, [some (.ref 0), some (.int l1), some (.int l2)], [], i_S X q1)) rfl (ok_b_Shelves_hold (by omega) hq1) rfl ?_
  refine i_rs 5 (cf' := (57, [some (.ref 0), some (.int l1), some (.int l2)], [.int l2, .int l1, .ref 44], i_S X q1)) rfl ?_
  obtain ⟨g2, h⟩ := i_gE h
  refine i_riast (n := 6) (cf' := (58, [some (.ref 0), some (.int l1), some (.int l2)], [], i_S X (i_wI q1 44 (Int32.toNatClampNeg l1) l2))) rfl rfl (Or.inl rfl) g2 rfl ?_
  refine i_rs 1 (cf' := (59, [some (.ref 0), some (.int l1), some (.int l2)], [.int (1 : Int32)], i_S X (i_wI q1 44 (Int32.toNatClampNeg l1) l2))) rfl ?_
  obtain rfl := Option.some.inj h
  exact i_rret rfl rfl
def b_keep_B29 (l1 : Int32) (l2 : Int32) (M : I_M) : Option (Int32 × I_M) :=
  (if l2 = (-1 : Int32) then
      b_keep_B44 l1 l2 l1 (-1 : Int32) M
    else
      b_keep_B44 l1 l2 l1 (5 : Int32) M)
theorem ok_b_keep_B29 {X : Nat × (Nat → Int32)} {d : Nat} {l1 : Int32} {l2 : Int32} {M : I_M} {r : (Int32 × I_M)} (hd : 4 ≤ d + 1) (h : b_keep_B29 l1 l2 M = some r) : I_RnE (I_Ex d) i_c154 (29, [some (.ref 0), some (.int l1), some (.int l2)], [], i_S X M) (some (.int r.1)) (i_S X r.2) := by
  unfold b_keep_B29 at h
  refine i_rs 5 (cf' := (36, [some (.ref 0), some (.int l1), some (.int l2)], [.int (-1 : Int32), .int l2, .int l1, .ref 41], i_S X M)) rfl ?_
  by_cases c3 : l2 = (-1 : Int32)
  · replace h := (if_pos c3).symm.trans h
    refine i_rbT (c := l2 = (-1 : Int32)) (t := 39) (n := 43) rfl c3 ?_
    refine i_rs 2 (cf' := (44, [some (.ref 0), some (.int l1), some (.int l2)], [.int (-1 : Int32), .int l1, .ref 41], i_S X M)) rfl ?_
    refine i_fg (lv' := [some (.ref 0), some (.int l1), some (.int l2)]) (And.intro rfl (And.intro rfl (And.intro rfl True.intro))) ?_
    exact ok_b_keep_B44 (by omega) h
  · replace h := (if_neg c3).symm.trans h
    refine i_rbF (c := l2 = (-1 : Int32)) (t := 39) (n := 43) rfl c3 ?_
    refine i_rs 1 (cf' := (44, [some (.ref 0), some (.int l1), some (.int l2)], [.int (5 : Int32), .int l1, .ref 41], i_S X M)) rfl ?_
    refine i_fg (lv' := [some (.ref 0), some (.int l1), some (.int l2)]) (And.intro rfl (And.intro rfl (And.intro rfl True.intro))) ?_
    exact ok_b_keep_B44 (by omega) h
def b_keep (l1 : Int32) (l2 : Int32) (M : I_M) : Option (Int32 × I_M) :=
  Option.bind (b_Shelves_isShelf l1 M) (fun q4 => (if q4.1 = (0 : Int32) then
      some ((-1 : Int32), q4.2)
    else
      (if l2 = (-1 : Int32) then
        b_keep_B29 l1 l2 q4.2
      else
        Option.bind (b_Bodies_has l2 q4.2) (fun q7 => (if q7.1 = (0 : Int32) then
          some ((-1 : Int32), q7.2)
        else
          b_keep_B29 l1 l2 q7.2)))))
theorem ok_b_keep {X : Nat × (Nat → Int32)} {d : Nat} {l1 : Int32} {l2 : Int32} {M : I_M} {r : (Int32 × I_M)} (hd : 4 ≤ d) (h : b_keep l1 l2 M = some r) : I_Ex d 154 [.ref 0, .int l1, .int l2] (i_S X M) (some (.int r.1)) (i_S X r.2) := by
  obtain ⟨d, rfl⟩ : ∃ d1, d = d1 + 1 := ⟨d - 1, by omega⟩
  unfold b_keep at h
  refine i_ex (e := i_r154) (lv := [some (.ref 0), some (.int l1), some (.int l2)]) rfl (Nat.le_of_ble_eq_true rfl) rfl ?_
  show I_RnE (I_Ex d) i_c154 (0, [some (.ref 0), some (.int l1), some (.int l2)], [], i_S X M) _ _
  refine i_rs 3 (cf' := (5, [some (.ref 0), some (.int l1), some (.int l2)], [.int l1, .ref 41], i_S X M)) rfl ?_
  obtain ⟨q4, hq4, h⟩ := i_bdE h
  refine i_rcall (k := 24) (as := [.ref 41, .int l1]) (cf1 := (8, [some (.ref 0), some (.int l1), some (.int l2)], [], i_S X M)) (cf' := (8, [some (.ref 0), some (.int l1), some (.int l2)], [.int q4.1], i_S X q4.2)) rfl (ok_b_Shelves_isShelf (by omega) hq4) rfl ?_
  by_cases c5 : q4.1 = (0 : Int32)
  · replace h := (if_pos c5).symm.trans h
    refine i_rbT (c := q4.1 = (0 : Int32)) (t := 27) (n := 11) rfl c5 ?_
    refine i_rs 1 (cf' := (28, [some (.ref 0), some (.int l1), some (.int l2)], [.int (-1 : Int32)], i_S X q4.2)) rfl ?_
    obtain rfl := Option.some.inj h
    exact i_rret rfl rfl
  · replace h := (if_neg c5).symm.trans h
    refine i_rbF (c := q4.1 = (0 : Int32)) (t := 27) (n := 11) rfl c5 ?_
    refine i_rs 2 (cf' := (13, [some (.ref 0), some (.int l1), some (.int l2)], [.int (-1 : Int32), .int l2], i_S X q4.2)) rfl ?_
    by_cases c6 : l2 = (-1 : Int32)
    · replace h := (if_pos c6).symm.trans h
      refine i_rbT (c := l2 = (-1 : Int32)) (t := 29) (n := 16) rfl c6 ?_
      refine i_fg (lv' := [some (.ref 0), some (.int l1), some (.int l2)]) (And.intro rfl (And.intro rfl (And.intro rfl True.intro))) ?_
      exact ok_b_keep_B29 (by omega) h
    · replace h := (if_neg c6).symm.trans h
      refine i_rbF (c := l2 = (-1 : Int32)) (t := 29) (n := 16) rfl c6 ?_
      refine i_rs 3 (cf' := (21, [some (.ref 0), some (.int l1), some (.int l2)], [.int l2, .ref 38], i_S X q4.2)) rfl ?_
      obtain ⟨q7, hq7, h⟩ := i_bdE h
      refine i_rcall (k := 145) (as := [.ref 38, .int l2]) (cf1 := (24, [some (.ref 0), some (.int l1), some (.int l2)], [], i_S X q4.2)) (cf' := (24, [some (.ref 0), some (.int l1), some (.int l2)], [.int q7.1], i_S X q7.2)) rfl (ok_b_Bodies_has (by omega) hq7) rfl ?_
      by_cases c8 : q7.1 = (0 : Int32)
      · replace h := (if_pos c8).symm.trans h
        refine i_rbT (c := q7.1 = (0 : Int32)) (t := 27) (n := 29) rfl c8 ?_
        refine i_rs 1 (cf' := (28, [some (.ref 0), some (.int l1), some (.int l2)], [.int (-1 : Int32)], i_S X q7.2)) rfl ?_
        obtain rfl := Option.some.inj h
        exact i_rret rfl rfl
      · replace h := (if_neg c8).symm.trans h
        refine i_rbF (c := q7.1 = (0 : Int32)) (t := 27) (n := 29) rfl c8 ?_
        refine i_fg (lv' := [some (.ref 0), some (.int l1), some (.int l2)]) (And.intro rfl (And.intro rfl (And.intro rfl True.intro))) ?_
        exact ok_b_keep_B29 (by omega) h
def r_keep_B22 (l1 : Int32) (l2 : Int32) (M : I_M) : Option (Int32 × I_M) :=
  i_g l1 6 (some ((1 : Int32), (i_wI (i_wI M 70 (Int32.toNatClampNeg l1) l2) 71 (Int32.toNatClampNeg l1) (0 : Int32))))
theorem ok_r_keep_B22 {X : Nat × (Nat → Int32)} {d : Nat} {l1 : Int32} {l2 : Int32} {M : I_M} {r : (Int32 × I_M)} (hd : 3 ≤ d + 1) (h : r_keep_B22 l1 l2 M = some r) : I_RnE (I_Ex d) i_c255 (22, [some (.ref 50), some (.int l1), some (.int l2)], [], i_S X M) (some (.int r.1)) (i_S X r.2) := by
  unfold r_keep_B22 at h
  refine i_rs 4 (cf' := (28, [some (.ref 50), some (.int l1), some (.int l2)], [.int l2, .int l1, .ref 70], i_S X M)) rfl ?_
  obtain ⟨g1, h⟩ := i_gE h
  refine i_riast (n := 6) (cf' := (29, [some (.ref 50), some (.int l1), some (.int l2)], [], i_S X (i_wI M 70 (Int32.toNatClampNeg l1) l2))) rfl rfl (Or.inl rfl) g1 rfl ?_
  refine i_rs 4 (cf' := (35, [some (.ref 50), some (.int l1), some (.int l2)], [.int (0 : Int32), .int l1, .ref 71], i_S X (i_wI M 70 (Int32.toNatClampNeg l1) l2))) rfl ?_
  refine i_riast (n := 6) (cf' := (36, [some (.ref 50), some (.int l1), some (.int l2)], [], i_S X (i_wI (i_wI M 70 (Int32.toNatClampNeg l1) l2) 71 (Int32.toNatClampNeg l1) (0 : Int32)))) rfl rfl (Or.inl rfl) g1 rfl ?_
  refine i_rs 1 (cf' := (37, [some (.ref 50), some (.int l1), some (.int l2)], [.int (1 : Int32)], i_S X (i_wI (i_wI M 70 (Int32.toNatClampNeg l1) l2) 71 (Int32.toNatClampNeg l1) (0 : Int32)))) rfl ?_
  obtain rfl := Option.some.inj h
  exact i_rret rfl rfl
def r_keep (l1 : Int32) (l2 : Int32) (M : I_M) : Option (Int32 × I_M) :=
  Option.bind (r_isShelf l1 M) (fun q2 => (if q2.1 = (0 : Int32) then
      some ((-1 : Int32), q2.2)
    else
      (if l2 = (-1 : Int32) then
        r_keep_B22 l1 l2 q2.2
      else
        Option.bind (r_isBody l2 q2.2) (fun q5 => (if q5.1 = (0 : Int32) then
          some ((-1 : Int32), q5.2)
        else
          r_keep_B22 l1 l2 q5.2)))))
theorem ok_r_keep {X : Nat × (Nat → Int32)} {d : Nat} {l1 : Int32} {l2 : Int32} {M : I_M} {r : (Int32 × I_M)} (hd : 3 ≤ d) (h : r_keep l1 l2 M = some r) : I_Ex d 255 [.ref 50, .int l1, .int l2] (i_S X M) (some (.int r.1)) (i_S X r.2) := by
  obtain ⟨d, rfl⟩ : ∃ d1, d = d1 + 1 := ⟨d - 1, by omega⟩
  unfold r_keep at h
  refine i_ex (e := i_r255) (lv := [some (.ref 50), some (.int l1), some (.int l2)]) rfl (Nat.le_of_ble_eq_true rfl) rfl ?_
  show I_RnE (I_Ex d) i_c255 (0, [some (.ref 50), some (.int l1), some (.int l2)], [], i_S X M) _ _
  refine i_rs 1 (cf' := (1, [some (.ref 50), some (.int l1), some (.int l2)], [.int l1], i_S X M)) rfl ?_
  obtain ⟨q2, hq2, h⟩ := i_bdE h
  refine i_rcall (k := 181) (as := [.int l1]) (cf1 := (4, [some (.ref 50), some (.int l1), some (.int l2)], [], i_S X M)) (cf' := (4, [some (.ref 50), some (.int l1), some (.int l2)], [.int q2.1], i_S X q2.2)) rfl (ok_r_isShelf (by omega) hq2) rfl ?_
  by_cases c3 : q2.1 = (0 : Int32)
  · replace h := (if_pos c3).symm.trans h
    refine i_rbT (c := q2.1 = (0 : Int32)) (t := 20) (n := 7) rfl c3 ?_
    refine i_rs 1 (cf' := (21, [some (.ref 50), some (.int l1), some (.int l2)], [.int (-1 : Int32)], i_S X q2.2)) rfl ?_
    obtain rfl := Option.some.inj h
    exact i_rret rfl rfl
  · replace h := (if_neg c3).symm.trans h
    refine i_rbF (c := q2.1 = (0 : Int32)) (t := 20) (n := 7) rfl c3 ?_
    refine i_rs 2 (cf' := (9, [some (.ref 50), some (.int l1), some (.int l2)], [.int (-1 : Int32), .int l2], i_S X q2.2)) rfl ?_
    by_cases c4 : l2 = (-1 : Int32)
    · replace h := (if_pos c4).symm.trans h
      refine i_rbT (c := l2 = (-1 : Int32)) (t := 22) (n := 12) rfl c4 ?_
      refine i_fg (lv' := [some (.ref 50), some (.int l1), some (.int l2)]) (And.intro rfl (And.intro rfl (And.intro rfl True.intro))) ?_
      exact ok_r_keep_B22 (by omega) h
    · replace h := (if_neg c4).symm.trans h
      refine i_rbF (c := l2 = (-1 : Int32)) (t := 22) (n := 12) rfl c4 ?_
      refine i_rs 2 (cf' := (14, [some (.ref 50), some (.int l1), some (.int l2)], [.int l2, .ref 50], i_S X q2.2)) rfl ?_
      obtain ⟨q5, hq5, h⟩ := i_bdE h
      refine i_rcall (k := 248) (as := [.ref 50, .int l2]) (cf1 := (17, [some (.ref 50), some (.int l1), some (.int l2)], [], i_S X q2.2)) (cf' := (17, [some (.ref 50), some (.int l1), some (.int l2)], [.int q5.1], i_S X q5.2)) rfl (ok_r_isBody (by omega) hq5) rfl ?_
      by_cases c6 : q5.1 = (0 : Int32)
      · replace h := (if_pos c6).symm.trans h
        refine i_rbT (c := q5.1 = (0 : Int32)) (t := 20) (n := 22) rfl c6 ?_
        refine i_rs 1 (cf' := (21, [some (.ref 50), some (.int l1), some (.int l2)], [.int (-1 : Int32)], i_S X q5.2)) rfl ?_
        obtain rfl := Option.some.inj h
        exact i_rret rfl rfl
      · replace h := (if_neg c6).symm.trans h
        refine i_rbF (c := q5.1 = (0 : Int32)) (t := 20) (n := 22) rfl c6 ?_
        refine i_fg (lv' := [some (.ref 50), some (.int l1), some (.int l2)]) (And.intro rfl (And.intro rfl (And.intro rfl True.intro))) ?_
        exact ok_r_keep_B22 (by omega) h
def b_row (l1 : Int32) (l2 : Int32) (l3 : Int32) (M : I_M) : Option (Int32 × I_M) :=
  Option.bind (b_Shelves_isShelf l1 M) (fun q1 => (if q1.1 = (0 : Int32) then
      some ((-1 : Int32), q1.2)
    else
      (if l2 < (0 : Int32) then
        some ((-1 : Int32), q1.2)
      else
        (if (4 : Int32) < l2 then
          some ((-1 : Int32), q1.2)
        else
          (if (60 : Int32) < l3 then
            some ((-1 : Int32), q1.2)
          else
            (if l3 < (0 : Int32) then
              some ((-14 : Int32), q1.2)
            else
              Option.bind (b_Shelves_hold l1 l2 l3 q1.2) (fun q7 => some ((1 : Int32), q7))))))))
theorem ok_b_row {X : Nat × (Nat → Int32)} {d : Nat} {l1 : Int32} {l2 : Int32} {l3 : Int32} {M : I_M} {r : (Int32 × I_M)} (hd : 4 ≤ d) (h : b_row l1 l2 l3 M = some r) : I_Ex d 158 [.ref 0, .int l1, .int l2, .int l3] (i_S X M) (some (.int r.1)) (i_S X r.2) := by
  obtain ⟨d, rfl⟩ : ∃ d1, d = d1 + 1 := ⟨d - 1, by omega⟩
  unfold b_row at h
  refine i_ex (e := i_r158) (lv := [some (.ref 0), some (.int l1), some (.int l2), some (.int l3)]) rfl (Nat.le_of_ble_eq_true rfl) rfl ?_
  show I_RnE (I_Ex d) i_c158 (0, [some (.ref 0), some (.int l1), some (.int l2), some (.int l3)], [], i_S X M) _ _
  refine i_rs 3 (cf' := (5, [some (.ref 0), some (.int l1), some (.int l2), some (.int l3)], [.int l1, .ref 41], i_S X M)) rfl ?_
  obtain ⟨q1, hq1, h⟩ := i_bdE h
  refine i_rcall (k := 24) (as := [.ref 41, .int l1]) (cf1 := (8, [some (.ref 0), some (.int l1), some (.int l2), some (.int l3)], [], i_S X M)) (cf' := (8, [some (.ref 0), some (.int l1), some (.int l2), some (.int l3)], [.int q1.1], i_S X q1.2)) rfl (ok_b_Shelves_isShelf (by omega) hq1) rfl ?_
  by_cases c2 : q1.1 = (0 : Int32)
  · replace h := (if_pos c2).symm.trans h
    refine i_rbT (c := q1.1 = (0 : Int32)) (t := 26) (n := 11) rfl c2 ?_
    refine i_rs 1 (cf' := (27, [some (.ref 0), some (.int l1), some (.int l2), some (.int l3)], [.int (-1 : Int32)], i_S X q1.2)) rfl ?_
    obtain rfl := Option.some.inj h
    exact i_rret rfl rfl
  · replace h := (if_neg c2).symm.trans h
    refine i_rbF (c := q1.1 = (0 : Int32)) (t := 26) (n := 11) rfl c2 ?_
    refine i_rs 1 (cf' := (12, [some (.ref 0), some (.int l1), some (.int l2), some (.int l3)], [.int l2], i_S X q1.2)) rfl ?_
    by_cases c3 : l2 < (0 : Int32)
    · replace h := (if_pos c3).symm.trans h
      refine i_rbT (c := l2 < (0 : Int32)) (t := 26) (n := 15) rfl c3 ?_
      refine i_rs 1 (cf' := (27, [some (.ref 0), some (.int l1), some (.int l2), some (.int l3)], [.int (-1 : Int32)], i_S X q1.2)) rfl ?_
      obtain rfl := Option.some.inj h
      exact i_rret rfl rfl
    · replace h := (if_neg c3).symm.trans h
      refine i_rbF (c := l2 < (0 : Int32)) (t := 26) (n := 15) rfl c3 ?_
      refine i_rs 2 (cf' := (17, [some (.ref 0), some (.int l1), some (.int l2), some (.int l3)], [.int (4 : Int32), .int l2], i_S X q1.2)) rfl ?_
      by_cases c4 : (4 : Int32) < l2
      · replace h := (if_pos c4).symm.trans h
        refine i_rbT (c := (4 : Int32) < l2) (t := 26) (n := 20) rfl c4 ?_
        refine i_rs 1 (cf' := (27, [some (.ref 0), some (.int l1), some (.int l2), some (.int l3)], [.int (-1 : Int32)], i_S X q1.2)) rfl ?_
        obtain rfl := Option.some.inj h
        exact i_rret rfl rfl
      · replace h := (if_neg c4).symm.trans h
        refine i_rbF (c := (4 : Int32) < l2) (t := 26) (n := 20) rfl c4 ?_
        refine i_rs 2 (cf' := (23, [some (.ref 0), some (.int l1), some (.int l2), some (.int l3)], [.int (60 : Int32), .int l3], i_S X q1.2)) rfl ?_
        by_cases c5 : (60 : Int32) < l3
        · replace h := (if_pos c5).symm.trans h
          refine i_rbT (c := (60 : Int32) < l3) (t := 26) (n := 28) rfl c5 ?_
          refine i_rs 1 (cf' := (27, [some (.ref 0), some (.int l1), some (.int l2), some (.int l3)], [.int (-1 : Int32)], i_S X q1.2)) rfl ?_
          obtain rfl := Option.some.inj h
          exact i_rret rfl rfl
        · replace h := (if_neg c5).symm.trans h
          refine i_rbF (c := (60 : Int32) < l3) (t := 26) (n := 28) rfl c5 ?_
          refine i_rs 1 (cf' := (29, [some (.ref 0), some (.int l1), some (.int l2), some (.int l3)], [.int l3], i_S X q1.2)) rfl ?_
          by_cases c6 : l3 < (0 : Int32)
          · replace h := (if_pos c6).symm.trans h
            refine i_rbT (c := l3 < (0 : Int32)) (t := 32) (n := 35) rfl c6 ?_
            refine i_rs 1 (cf' := (34, [some (.ref 0), some (.int l1), some (.int l2), some (.int l3)], [.int (-14 : Int32)], i_S X q1.2)) rfl ?_
            obtain rfl := Option.some.inj h
            exact i_rret rfl rfl
          · replace h := (if_neg c6).symm.trans h
            refine i_rbF (c := l3 < (0 : Int32)) (t := 32) (n := 35) rfl c6 ?_
            refine i_rs 5 (cf' := (42, [some (.ref 0), some (.int l1), some (.int l2), some (.int l3)], [.int l3, .int l2, .int l1, .ref 41], i_S X q1.2)) rfl ?_
            obtain ⟨q7, hq7, h⟩ := i_bdE h
            refine i_rcall (k := 155) (as := [.ref 41, .int l1, .int l2, .int l3]) (cf1 := (45, [some (.ref 0), some (.int l1), some (.int l2), some (.int l3)], [], i_S X q1.2)) (cf' := (45, [some (.ref 0), some (.int l1), some (.int l2), some (.int l3)], [], i_S X q7)) rfl (ok_b_Shelves_hold (by omega) hq7) rfl ?_
            refine i_rs 1 (cf' := (46, [some (.ref 0), some (.int l1), some (.int l2), some (.int l3)], [.int (1 : Int32)], i_S X q7)) rfl ?_
            obtain rfl := Option.some.inj h
            exact i_rret rfl rfl
def r_row_L57 (l1 : Int32) : Nat → Int32 → I_M → Option (Int32 × I_M)
  | 0, _, _ => none
  | n + 1, l4, M =>
    (if l4 < (((60 : Int32) * l1) + (60 : Int32)) then
        i_g l4 360 ((r_row_L57 l1 n) (l4 + (1 : Int32)) (i_wL M 72 (Int32.toNatClampNeg l4) (0 : Int64)))
      else
        some ((1 : Int32), M))
theorem ok_r_row_L57 {X : Nat × (Nat → Int32)} {d : Nat} {l1 : Int32} (hd : 3 ≤ d + 1) : ∀ (n : Nat) (l4 : Int32) (M : I_M) (r : (Int32 × I_M)), r_row_L57 l1 n l4 M = some r → I_RnE (I_Ex d) i_c256 (57, [some (.ref 50), some (.int l1), none, none, some (.int l4)], [], i_S X M) (some (.int r.1)) (i_S X r.2) := by
  intro n
  induction n with
  | zero => intro _ M r h; cases h
  | succ n hself =>
    intro l4 M r h
    rw [r_row_L57] at h
    refine i_rs 6 (cf' := (66, [some (.ref 50), some (.int l1), none, none, some (.int l4)], [.int (((60 : Int32) * l1) + (60 : Int32)), .int l4], i_S X M)) rfl ?_
    by_cases c1 : l4 < (((60 : Int32) * l1) + (60 : Int32))
    · replace h := (if_pos c1).symm.trans h
      refine i_rbT (c := l4 < (((60 : Int32) * l1) + (60 : Int32))) (t := 69) (n := 83) rfl c1 ?_
      refine i_rs 4 (cf' := (76, [some (.ref 50), some (.int l1), none, none, some (.int l4)], [.long (0 : Int64), .int l4, .ref 72], i_S X M)) rfl ?_
      obtain ⟨g2, h⟩ := i_gE h
      refine i_rlast (n := 360) (cf' := (77, [some (.ref 50), some (.int l1), none, none, some (.int l4)], [], i_S X (i_wL M 72 (Int32.toNatClampNeg l4) (0 : Int64)))) rfl rfl g2 rfl ?_
      refine i_rs 2 (cf' := (57, [some (.ref 50), some (.int l1), none, none, some (.int (l4 + (1 : Int32)))], [], i_S X (i_wL M 72 (Int32.toNatClampNeg l4) (0 : Int64)))) rfl ?_
      refine i_fg (lv' := [some (.ref 50), some (.int l1), none, none, some (.int (l4 + (1 : Int32)))]) (And.intro rfl (And.intro rfl (And.intro rfl True.intro))) ?_
      exact hself (l4 + (1 : Int32)) (i_wL M 72 (Int32.toNatClampNeg l4) (0 : Int64)) _ h
    · replace h := (if_neg c1).symm.trans h
      refine i_rbF (c := l4 < (((60 : Int32) * l1) + (60 : Int32))) (t := 69) (n := 83) rfl c1 ?_
      refine i_rs 1 (cf' := (84, [some (.ref 50), some (.int l1), none, none, some (.int l4)], [.int (1 : Int32)], i_S X M)) rfl ?_
      obtain rfl := Option.some.inj h
      exact i_rret rfl rfl
def r_row (l1 : Int32) (l2 : Int32) (l3 : Int32) (M : I_M) : Option (Int32 × I_M) :=
  Option.bind (r_isShelf l1 M) (fun q3 => (if q3.1 = (0 : Int32) then
      some ((-1 : Int32), q3.2)
    else
      Option.bind (r_within (Int32.toInt64 l2) (0 : Int64) (4 : Int64) q3.2) (fun q5 => (if q5.1 = (0 : Int32) then
        some ((-1 : Int32), q5.2)
      else
        (if (60 : Int32) < l3 then
          some ((-1 : Int32), q5.2)
        else
          (if l3 < (0 : Int32) then
            some ((-14 : Int32), q5.2)
          else
            i_g l1 6 (r_row_L57 l1 i_F ((60 : Int32) * l1) (i_wI (i_wI q5.2 70 (Int32.toNatClampNeg l1) ((50 : Int32) + l2)) 71 (Int32.toNatClampNeg l1) l3))))))))
theorem ok_r_row {X : Nat × (Nat → Int32)} {d : Nat} {l1 : Int32} {l2 : Int32} {l3 : Int32} {M : I_M} {r : (Int32 × I_M)} (hd : 3 ≤ d) (h : r_row l1 l2 l3 M = some r) : I_Ex d 256 [.ref 50, .int l1, .int l2, .int l3] (i_S X M) (some (.int r.1)) (i_S X r.2) := by
  obtain ⟨d, rfl⟩ : ∃ d1, d = d1 + 1 := ⟨d - 1, by omega⟩
  unfold r_row at h
  refine i_ex (e := i_r256) (lv := [some (.ref 50), some (.int l1), some (.int l2), some (.int l3), none]) rfl (Nat.le_of_ble_eq_true rfl) rfl ?_
  show I_RnE (I_Ex d) i_c256 (0, [some (.ref 50), some (.int l1), some (.int l2), some (.int l3), none], [], i_S X M) _ _
  refine i_rs 1 (cf' := (1, [some (.ref 50), some (.int l1), some (.int l2), some (.int l3), none], [.int l1], i_S X M)) rfl ?_
  obtain ⟨q3, hq3, h⟩ := i_bdE h
  refine i_rcall (k := 181) (as := [.int l1]) (cf1 := (4, [some (.ref 50), some (.int l1), some (.int l2), some (.int l3), none], [], i_S X M)) (cf' := (4, [some (.ref 50), some (.int l1), some (.int l2), some (.int l3), none], [.int q3.1], i_S X q3.2)) rfl (ok_r_isShelf (by omega) hq3) rfl ?_
  by_cases c4 : q3.1 = (0 : Int32)
  · replace h := (if_pos c4).symm.trans h
    refine i_rbT (c := q3.1 = (0 : Int32)) (t := 25) (n := 7) rfl c4 ?_
    refine i_rs 1 (cf' := (26, [some (.ref 50), some (.int l1), some (.int l2), some (.int l3), none], [.int (-1 : Int32)], i_S X q3.2)) rfl ?_
    obtain rfl := Option.some.inj h
    exact i_rret rfl rfl
  · replace h := (if_neg c4).symm.trans h
    refine i_rbF (c := q3.1 = (0 : Int32)) (t := 25) (n := 7) rfl c4 ?_
    refine i_rs 4 (cf' := (13, [some (.ref 50), some (.int l1), some (.int l2), some (.int l3), none], [.long (4 : Int64), .long (0 : Int64), .long (Int32.toInt64 l2)], i_S X q3.2)) rfl ?_
    obtain ⟨q5, hq5, h⟩ := i_bdE h
    refine i_rcall (k := 175) (as := [.long (Int32.toInt64 l2), .long (0 : Int64), .long (4 : Int64)]) (cf1 := (16, [some (.ref 50), some (.int l1), some (.int l2), some (.int l3), none], [], i_S X q3.2)) (cf' := (16, [some (.ref 50), some (.int l1), some (.int l2), some (.int l3), none], [.int q5.1], i_S X q5.2)) rfl (ok_r_within (by omega) hq5) rfl ?_
    by_cases c6 : q5.1 = (0 : Int32)
    · replace h := (if_pos c6).symm.trans h
      refine i_rbT (c := q5.1 = (0 : Int32)) (t := 25) (n := 19) rfl c6 ?_
      refine i_rs 1 (cf' := (26, [some (.ref 50), some (.int l1), some (.int l2), some (.int l3), none], [.int (-1 : Int32)], i_S X q5.2)) rfl ?_
      obtain rfl := Option.some.inj h
      exact i_rret rfl rfl
    · replace h := (if_neg c6).symm.trans h
      refine i_rbF (c := q5.1 = (0 : Int32)) (t := 25) (n := 19) rfl c6 ?_
      refine i_rs 2 (cf' := (22, [some (.ref 50), some (.int l1), some (.int l2), some (.int l3), none], [.int (60 : Int32), .int l3], i_S X q5.2)) rfl ?_
      by_cases c7 : (60 : Int32) < l3
      · replace h := (if_pos c7).symm.trans h
        refine i_rbT (c := (60 : Int32) < l3) (t := 25) (n := 27) rfl c7 ?_
        refine i_rs 1 (cf' := (26, [some (.ref 50), some (.int l1), some (.int l2), some (.int l3), none], [.int (-1 : Int32)], i_S X q5.2)) rfl ?_
        obtain rfl := Option.some.inj h
        exact i_rret rfl rfl
      · replace h := (if_neg c7).symm.trans h
        refine i_rbF (c := (60 : Int32) < l3) (t := 25) (n := 27) rfl c7 ?_
        refine i_rs 1 (cf' := (28, [some (.ref 50), some (.int l1), some (.int l2), some (.int l3), none], [.int l3], i_S X q5.2)) rfl ?_
        by_cases c8 : l3 < (0 : Int32)
        · replace h := (if_pos c8).symm.trans h
          refine i_rbT (c := l3 < (0 : Int32)) (t := 31) (n := 34) rfl c8 ?_
          refine i_rs 1 (cf' := (33, [some (.ref 50), some (.int l1), some (.int l2), some (.int l3), none], [.int (-14 : Int32)], i_S X q5.2)) rfl ?_
          obtain rfl := Option.some.inj h
          exact i_rret rfl rfl
        · replace h := (if_neg c8).symm.trans h
          refine i_rbF (c := l3 < (0 : Int32)) (t := 31) (n := 34) rfl c8 ?_
          refine i_rs 6 (cf' := (43, [some (.ref 50), some (.int l1), some (.int l2), some (.int l3), none], [.int ((50 : Int32) + l2), .int l1, .ref 70], i_S X q5.2)) rfl ?_
          obtain ⟨g9, h⟩ := i_gE h
          refine i_riast (n := 6) (cf' := (44, [some (.ref 50), some (.int l1), some (.int l2), some (.int l3), none], [], i_S X (i_wI q5.2 70 (Int32.toNatClampNeg l1) ((50 : Int32) + l2)))) rfl rfl (Or.inl rfl) g9 rfl ?_
          refine i_rs 4 (cf' := (50, [some (.ref 50), some (.int l1), some (.int l2), some (.int l3), none], [.int l3, .int l1, .ref 71], i_S X (i_wI q5.2 70 (Int32.toNatClampNeg l1) ((50 : Int32) + l2)))) rfl ?_
          refine i_riast (n := 6) (cf' := (51, [some (.ref 50), some (.int l1), some (.int l2), some (.int l3), none], [], i_S X (i_wI (i_wI q5.2 70 (Int32.toNatClampNeg l1) ((50 : Int32) + l2)) 71 (Int32.toNatClampNeg l1) l3))) rfl rfl (Or.inl rfl) g9 rfl ?_
          refine i_rs 4 (cf' := (57, [some (.ref 50), some (.int l1), some (.int l2), some (.int l3), some (.int ((60 : Int32) * l1))], [], i_S X (i_wI (i_wI q5.2 70 (Int32.toNatClampNeg l1) ((50 : Int32) + l2)) 71 (Int32.toNatClampNeg l1) l3))) rfl ?_
          refine i_fg (lv' := [some (.ref 50), some (.int l1), none, none, some (.int ((60 : Int32) * l1))]) (And.intro rfl (And.intro rfl (And.intro rfl True.intro))) ?_
          refine ok_r_row_L57 (by omega) i_F ((60 : Int32) * l1) (i_wI (i_wI q5.2 70 (Int32.toNatClampNeg l1) ((50 : Int32) + l2)) 71 (Int32.toNatClampNeg l1) l3) _ h
def b_refusal (l1 : Int32) (l2 : Int32) (M : I_M) : Option (Int32 × I_M) :=
  Option.bind (b_Shelves_isShelf l1 M) (fun q1 => (if q1.1 = (0 : Int32) then
      some ((-1 : Int32), q1.2)
    else
      i_g l1 6 ((if (q1.2.1 42 (Int32.toNatClampNeg l1)) = (-1 : Int32) then
        some ((-11 : Int32), q1.2)
      else
        (if (q1.2.1 42 (Int32.toNatClampNeg l1)) = (5 : Int32) then
          some ((-12 : Int32), q1.2)
        else
          Option.bind (b_Shelves_hasPlace l1 l2 q1.2) (fun q6 => (if q6.1 = (0 : Int32) then
            some ((-13 : Int32), q6.2)
          else
            some ((0 : Int32), q6.2))))))))
theorem ok_b_refusal {X : Nat × (Nat → Int32)} {d : Nat} {l1 : Int32} {l2 : Int32} {M : I_M} {r : (Int32 × I_M)} (hd : 2 ≤ d) (h : b_refusal l1 l2 M = some r) : I_Ex d 160 [.ref 0, .int l1, .int l2] (i_S X M) (some (.int r.1)) (i_S X r.2) := by
  obtain ⟨d, rfl⟩ : ∃ d1, d = d1 + 1 := ⟨d - 1, by omega⟩
  unfold b_refusal at h
  refine i_ex (e := i_r160) (lv := [some (.ref 0), some (.int l1), some (.int l2)]) rfl (Nat.le_of_ble_eq_true rfl) rfl ?_
  show I_RnE (I_Ex d) i_c160 (0, [some (.ref 0), some (.int l1), some (.int l2)], [], i_S X M) _ _
  refine i_rs 3 (cf' := (5, [some (.ref 0), some (.int l1), some (.int l2)], [.int l1, .ref 41], i_S X M)) rfl ?_
  obtain ⟨q1, hq1, h⟩ := i_bdE h
  refine i_rcall (k := 24) (as := [.ref 41, .int l1]) (cf1 := (8, [some (.ref 0), some (.int l1), some (.int l2)], [], i_S X M)) (cf' := (8, [some (.ref 0), some (.int l1), some (.int l2)], [.int q1.1], i_S X q1.2)) rfl (ok_b_Shelves_isShelf (by omega) hq1) rfl ?_
  by_cases c2 : q1.1 = (0 : Int32)
  · replace h := (if_pos c2).symm.trans h
    refine i_rbT (c := q1.1 = (0 : Int32)) (t := 11) (n := 13) rfl c2 ?_
    refine i_rs 1 (cf' := (12, [some (.ref 0), some (.int l1), some (.int l2)], [.int (-1 : Int32)], i_S X q1.2)) rfl ?_
    obtain rfl := Option.some.inj h
    exact i_rret rfl rfl
  · replace h := (if_neg c2).symm.trans h
    refine i_rbF (c := q1.1 = (0 : Int32)) (t := 11) (n := 13) rfl c2 ?_
    refine i_rs 4 (cf' := (21, [some (.ref 0), some (.int l1), some (.int l2)], [.int l1, .ref 42], i_S X q1.2)) rfl ?_
    obtain ⟨g3, h⟩ := i_gE h
    refine i_riald (n := 6) (cf' := (22, [some (.ref 0), some (.int l1), some (.int l2)], [.int (q1.2.1 42 (Int32.toNatClampNeg l1))], i_S X q1.2)) rfl rfl (by decide) g3 rfl ?_
    refine i_rs 1 (cf' := (23, [some (.ref 0), some (.int l1), some (.int l2)], [.int (-1 : Int32), .int (q1.2.1 42 (Int32.toNatClampNeg l1))], i_S X q1.2)) rfl ?_
    by_cases c4 : (q1.2.1 42 (Int32.toNatClampNeg l1)) = (-1 : Int32)
    · replace h := (if_pos c4).symm.trans h
      refine i_rbT (c := (q1.2.1 42 (Int32.toNatClampNeg l1)) = (-1 : Int32)) (t := 26) (n := 29) rfl c4 ?_
      refine i_rs 1 (cf' := (28, [some (.ref 0), some (.int l1), some (.int l2)], [.int (-11 : Int32)], i_S X q1.2)) rfl ?_
      obtain rfl := Option.some.inj h
      exact i_rret rfl rfl
    · replace h := (if_neg c4).symm.trans h
      refine i_rbF (c := (q1.2.1 42 (Int32.toNatClampNeg l1)) = (-1 : Int32)) (t := 26) (n := 29) rfl c4 ?_
      refine i_rs 4 (cf' := (37, [some (.ref 0), some (.int l1), some (.int l2)], [.int l1, .ref 42], i_S X q1.2)) rfl ?_
      refine i_riald (n := 6) (cf' := (38, [some (.ref 0), some (.int l1), some (.int l2)], [.int (q1.2.1 42 (Int32.toNatClampNeg l1))], i_S X q1.2)) rfl rfl (by decide) g3 rfl ?_
      refine i_rs 1 (cf' := (39, [some (.ref 0), some (.int l1), some (.int l2)], [.int (5 : Int32), .int (q1.2.1 42 (Int32.toNatClampNeg l1))], i_S X q1.2)) rfl ?_
      by_cases c5 : (q1.2.1 42 (Int32.toNatClampNeg l1)) = (5 : Int32)
      · replace h := (if_pos c5).symm.trans h
        refine i_rbT (c := (q1.2.1 42 (Int32.toNatClampNeg l1)) = (5 : Int32)) (t := 42) (n := 45) rfl c5 ?_
        refine i_rs 1 (cf' := (44, [some (.ref 0), some (.int l1), some (.int l2)], [.int (-12 : Int32)], i_S X q1.2)) rfl ?_
        obtain rfl := Option.some.inj h
        exact i_rret rfl rfl
      · replace h := (if_neg c5).symm.trans h
        refine i_rbF (c := (q1.2.1 42 (Int32.toNatClampNeg l1)) = (5 : Int32)) (t := 42) (n := 45) rfl c5 ?_
        refine i_rs 4 (cf' := (51, [some (.ref 0), some (.int l1), some (.int l2)], [.int l2, .int l1, .ref 41], i_S X q1.2)) rfl ?_
        obtain ⟨q6, hq6, h⟩ := i_bdE h
        refine i_rcall (k := 26) (as := [.ref 41, .int l1, .int l2]) (cf1 := (54, [some (.ref 0), some (.int l1), some (.int l2)], [], i_S X q1.2)) (cf' := (54, [some (.ref 0), some (.int l1), some (.int l2)], [.int q6.1], i_S X q6.2)) rfl (ok_b_Shelves_hasPlace (by omega) hq6) rfl ?_
        by_cases c7 : q6.1 = (0 : Int32)
        · replace h := (if_pos c7).symm.trans h
          refine i_rbT (c := q6.1 = (0 : Int32)) (t := 61) (n := 57) rfl c7 ?_
          refine i_rs 1 (cf' := (63, [some (.ref 0), some (.int l1), some (.int l2)], [.int (-13 : Int32)], i_S X q6.2)) rfl ?_
          obtain rfl := Option.some.inj h
          exact i_rret rfl rfl
        · replace h := (if_neg c7).symm.trans h
          refine i_rbF (c := q6.1 = (0 : Int32)) (t := 61) (n := 57) rfl c7 ?_
          refine i_rs 2 (cf' := (63, [some (.ref 0), some (.int l1), some (.int l2)], [.int (0 : Int32)], i_S X q6.2)) rfl ?_
          obtain rfl := Option.some.inj h
          exact i_rret rfl rfl
def b_Shelves_held (l0 : Int32) (l1 : Int64) (M : I_M) : Option (Int64 × I_M) :=
  (if l0 = (0 : Int32) then
      some ((Int32.toInt64 (Int8.toInt32 (Int32.toInt8 (Int64.toInt32 l1)))), M)
    else
      (if l0 = (1 : Int32) then
        some ((Int32.toInt64 (Int16.toInt32 (Int32.toInt16 (Int64.toInt32 l1)))), M)
      else
        (if l0 = (2 : Int32) then
          some ((Int32.toInt64 (Int64.toInt32 l1)), M)
        else
          (if l0 = (3 : Int32) then
            some (l1, M)
          else
            (if l0 = (4 : Int32) then
              (if (lg_cmp l1 (0 : Int64)) = (0 : Int32) then
                some ((0 : Int64), M)
              else
                some ((1 : Int64), M))
            else
              some (l1, M))))))
theorem ok_b_Shelves_held {X : Nat × (Nat → Int32)} {d : Nat} {l0 : Int32} {l1 : Int64} {M : I_M} {r : (Int64 × I_M)} (hd : 1 ≤ d) (h : b_Shelves_held l0 l1 M = some r) : I_Ex d 162 [.int l0, .long l1] (i_S X M) (some (.long r.1)) (i_S X r.2) := by
  obtain ⟨d, rfl⟩ : ∃ d1, d = d1 + 1 := ⟨d - 1, by omega⟩
  unfold b_Shelves_held at h
  refine i_ex (e := i_r162) (lv := [some (.int l0), some (.long l1), none]) rfl (Nat.le_of_ble_eq_true rfl) rfl ?_
  show I_RnE (I_Ex d) i_c162 (0, [some (.int l0), some (.long l1), none], [], i_S X M) _ _
  refine i_rs 1 (cf' := (1, [some (.int l0), some (.long l1), none], [.int l0], i_S X M)) rfl ?_
  refine i_stp1 (cf' := (i_sw l0 62 [(0, 36), (1, 41), (2, 46), (3, 62), (4, 50)], [some (.int l0), some (.long l1), none], [], i_S X M)) rfl ?_
  by_cases c1 : l0 = (0 : Int32)
  · replace h := (if_pos c1).symm.trans h
    refine i_rswT c1 ?_
    refine i_rs 4 (cf' := (40, [some (.int l0), some (.long l1), none], [.long (Int32.toInt64 (Int8.toInt32 (Int32.toInt8 (Int64.toInt32 l1))))], i_S X M)) rfl ?_
    obtain rfl := Option.some.inj h
    exact i_rret rfl rfl
  · replace h := (if_neg c1).symm.trans h
    refine i_rswF c1 ?_
    by_cases c2 : l0 = (1 : Int32)
    · replace h := (if_pos c2).symm.trans h
      refine i_rswT c2 ?_
      refine i_rs 4 (cf' := (45, [some (.int l0), some (.long l1), none], [.long (Int32.toInt64 (Int16.toInt32 (Int32.toInt16 (Int64.toInt32 l1))))], i_S X M)) rfl ?_
      obtain rfl := Option.some.inj h
      exact i_rret rfl rfl
    · replace h := (if_neg c2).symm.trans h
      refine i_rswF c2 ?_
      by_cases c3 : l0 = (2 : Int32)
      · replace h := (if_pos c3).symm.trans h
        refine i_rswT c3 ?_
        refine i_rs 3 (cf' := (49, [some (.int l0), some (.long l1), none], [.long (Int32.toInt64 (Int64.toInt32 l1))], i_S X M)) rfl ?_
        obtain rfl := Option.some.inj h
        exact i_rret rfl rfl
      · replace h := (if_neg c3).symm.trans h
        refine i_rswF c3 ?_
        by_cases c4 : l0 = (3 : Int32)
        · replace h := (if_pos c4).symm.trans h
          refine i_rswT c4 ?_
          refine i_rs 1 (cf' := (63, [some (.int l0), some (.long l1), none], [.long l1], i_S X M)) rfl ?_
          obtain rfl := Option.some.inj h
          exact i_rret rfl rfl
        · replace h := (if_neg c4).symm.trans h
          refine i_rswF c4 ?_
          by_cases c5 : l0 = (4 : Int32)
          · replace h := (if_pos c5).symm.trans h
            refine i_rswT c5 ?_
            refine i_rs 3 (cf' := (53, [some (.int l0), some (.long l1), none], [.int (lg_cmp l1 (0 : Int64))], i_S X M)) rfl ?_
            by_cases c6 : (lg_cmp l1 (0 : Int64)) = (0 : Int32)
            · replace h := (if_pos c6).symm.trans h
              refine i_rbT (c := (lg_cmp l1 (0 : Int64)) = (0 : Int32)) (t := 60) (n := 56) rfl c6 ?_
              refine i_rs 1 (cf' := (61, [some (.int l0), some (.long l1), none], [.long (0 : Int64)], i_S X M)) rfl ?_
              obtain rfl := Option.some.inj h
              exact i_rret rfl rfl
            · replace h := (if_neg c6).symm.trans h
              refine i_rbF (c := (lg_cmp l1 (0 : Int64)) = (0 : Int32)) (t := 60) (n := 56) rfl c6 ?_
              refine i_rs 2 (cf' := (61, [some (.int l0), some (.long l1), none], [.long (1 : Int64)], i_S X M)) rfl ?_
              obtain rfl := Option.some.inj h
              exact i_rret rfl rfl
          · replace h := (if_neg c5).symm.trans h
            refine i_rswF c5 ?_
            refine i_rs 1 (cf' := (63, [some (.int l0), some (.long l1), none], [.long l1], i_S X M)) rfl ?_
            obtain rfl := Option.some.inj h
            exact i_rret rfl rfl
def b_Shelves_set (l1 : Int32) (l2 : Int32) (l3 : Int64) (M : I_M) : Option I_M :=
  i_g l1 6 (Option.bind (b_Shelves_held (M.1 42 (Int32.toNatClampNeg l1)) l3 M) (fun q2 => i_g ((l1 * (60 : Int32)) + l2) 360 (some (i_wL q2.2 45 (Int32.toNatClampNeg ((l1 * (60 : Int32)) + l2)) q2.1))))
theorem ok_b_Shelves_set {X : Nat × (Nat → Int32)} {d : Nat} {l1 : Int32} {l2 : Int32} {l3 : Int64} {M : I_M} {r : I_M} (hd : 2 ≤ d) (h : b_Shelves_set l1 l2 l3 M = some r) : I_Ex d 161 [.ref 41, .int l1, .int l2, .long l3] (i_S X M) none (i_S X r) := by
  obtain ⟨d, rfl⟩ : ∃ d1, d = d1 + 1 := ⟨d - 1, by omega⟩
  unfold b_Shelves_set at h
  refine i_ex (e := i_r161) (lv := [some (.ref 41), some (.int l1), some (.int l2), some (.long l3), none]) rfl (Nat.le_of_ble_eq_true rfl) rfl ?_
  show I_RnE (I_Ex d) i_c161 (0, [some (.ref 41), some (.int l1), some (.int l2), some (.long l3), none], [], i_S X M) _ _
  refine i_rs 10 (cf' := (15, [some (.ref 41), some (.int l1), some (.int l2), some (.long l3), none], [.int l1, .ref 42, .int ((l1 * (60 : Int32)) + l2), .ref 45], i_S X M)) rfl ?_
  obtain ⟨g1, h⟩ := i_gE h
  refine i_riald (n := 6) (cf' := (16, [some (.ref 41), some (.int l1), some (.int l2), some (.long l3), none], [.int (M.1 42 (Int32.toNatClampNeg l1)), .int ((l1 * (60 : Int32)) + l2), .ref 45], i_S X M)) rfl rfl (by decide) g1 rfl ?_
  refine i_rs 1 (cf' := (17, [some (.ref 41), some (.int l1), some (.int l2), some (.long l3), none], [.long l3, .int (M.1 42 (Int32.toNatClampNeg l1)), .int ((l1 * (60 : Int32)) + l2), .ref 45], i_S X M)) rfl ?_
  obtain ⟨q2, hq2, h⟩ := i_bdE h
  refine i_rcall (k := 162) (as := [.int (M.1 42 (Int32.toNatClampNeg l1)), .long l3]) (cf1 := (20, [some (.ref 41), some (.int l1), some (.int l2), some (.long l3), none], [.int ((l1 * (60 : Int32)) + l2), .ref 45], i_S X M)) (cf' := (20, [some (.ref 41), some (.int l1), some (.int l2), some (.long l3), none], [.long q2.1, .int ((l1 * (60 : Int32)) + l2), .ref 45], i_S X q2.2)) rfl (ok_b_Shelves_held (by omega) hq2) rfl ?_
  obtain ⟨g3, h⟩ := i_gE h
  refine i_rlast (n := 360) (cf' := (21, [some (.ref 41), some (.int l1), some (.int l2), some (.long l3), none], [], i_S X (i_wL q2.2 45 (Int32.toNatClampNeg ((l1 * (60 : Int32)) + l2)) q2.1))) rfl rfl g3 rfl ?_
  obtain rfl := Option.some.inj h
  exact i_rret rfl rfl
def b_put (l1 : Int32) (l2 : Int32) (l3 : Int64) (M : I_M) : Option (Int32 × I_M) :=
  Option.bind (b_refusal l1 l2 M) (fun q1 => (if q1.1 = (0 : Int32) then
      Option.bind (b_Shelves_set l1 l2 l3 q1.2) (fun q3 => some ((1 : Int32), q3))
    else
      some (q1.1, q1.2)))
theorem ok_b_put {X : Nat × (Nat → Int32)} {d : Nat} {l1 : Int32} {l2 : Int32} {l3 : Int64} {M : I_M} {r : (Int32 × I_M)} (hd : 3 ≤ d) (h : b_put l1 l2 l3 M = some r) : I_Ex d 159 [.ref 0, .int l1, .int l2, .long l3] (i_S X M) (some (.int r.1)) (i_S X r.2) := by
  obtain ⟨d, rfl⟩ : ∃ d1, d = d1 + 1 := ⟨d - 1, by omega⟩
  unfold b_put at h
  refine i_ex (e := i_r159) (lv := [some (.ref 0), some (.int l1), some (.int l2), some (.long l3), none, none]) rfl (Nat.le_of_ble_eq_true rfl) rfl ?_
  show I_RnE (I_Ex d) i_c159 (0, [some (.ref 0), some (.int l1), some (.int l2), some (.long l3), none, none], [], i_S X M) _ _
  refine i_rs 3 (cf' := (3, [some (.ref 0), some (.int l1), some (.int l2), some (.long l3), none, none], [.int l2, .int l1, .ref 0], i_S X M)) rfl ?_
  obtain ⟨q1, hq1, h⟩ := i_bdE h
  refine i_rcall (k := 160) (as := [.ref 0, .int l1, .int l2]) (cf1 := (6, [some (.ref 0), some (.int l1), some (.int l2), some (.long l3), none, none], [], i_S X M)) (cf' := (6, [some (.ref 0), some (.int l1), some (.int l2), some (.long l3), none, none], [.int q1.1], i_S X q1.2)) rfl (ok_b_refusal (by omega) hq1) rfl ?_
  refine i_rs 2 (cf' := (10, [some (.ref 0), some (.int l1), some (.int l2), some (.long l3), none, some (.int q1.1)], [.int q1.1], i_S X q1.2)) rfl ?_
  by_cases c2 : q1.1 = (0 : Int32)
  · replace h := (if_pos c2).symm.trans h
    refine i_rbT (c := q1.1 = (0 : Int32)) (t := 16) (n := 13) rfl c2 ?_
    refine i_rs 5 (cf' := (23, [some (.ref 0), some (.int l1), some (.int l2), some (.long l3), none, some (.int q1.1)], [.long l3, .int l2, .int l1, .ref 41], i_S X q1.2)) rfl ?_
    obtain ⟨q3, hq3, h⟩ := i_bdE h
    refine i_rcall (k := 161) (as := [.ref 41, .int l1, .int l2, .long l3]) (cf1 := (26, [some (.ref 0), some (.int l1), some (.int l2), some (.long l3), none, some (.int q1.1)], [], i_S X q1.2)) (cf' := (26, [some (.ref 0), some (.int l1), some (.int l2), some (.long l3), none, some (.int q1.1)], [], i_S X q3)) rfl (ok_b_Shelves_set (by omega) hq3) rfl ?_
    refine i_rs 1 (cf' := (27, [some (.ref 0), some (.int l1), some (.int l2), some (.long l3), none, some (.int q1.1)], [.int (1 : Int32)], i_S X q3)) rfl ?_
    obtain rfl := Option.some.inj h
    exact i_rret rfl rfl
  · replace h := (if_neg c2).symm.trans h
    refine i_rbF (c := q1.1 = (0 : Int32)) (t := 16) (n := 13) rfl c2 ?_
    refine i_rs 1 (cf' := (15, [some (.ref 0), some (.int l1), some (.int l2), some (.long l3), none, some (.int q1.1)], [.int q1.1], i_S X q1.2)) rfl ?_
    obtain rfl := Option.some.inj h
    exact i_rret rfl rfl
def r_refusal (l1 : Int32) (l2 : Int32) (M : I_M) : Option (Int32 × I_M) :=
  Option.bind (r_isShelf l1 M) (fun q1 => (if q1.1 = (0 : Int32) then
      some ((-1 : Int32), q1.2)
    else
      i_g l1 6 ((if (q1.2.1 70 (Int32.toNatClampNeg l1)) < (0 : Int32) then
        some ((-11 : Int32), q1.2)
      else
        (if (q1.2.1 70 (Int32.toNatClampNeg l1)) < (50 : Int32) then
          some ((-12 : Int32), q1.2)
        else
          (if l2 < (0 : Int32) then
            some ((-13 : Int32), q1.2)
          else
            (if l2 < (q1.2.1 71 (Int32.toNatClampNeg l1)) then
              some ((0 : Int32), q1.2)
            else
              some ((-13 : Int32), q1.2))))))))
theorem ok_r_refusal {X : Nat × (Nat → Int32)} {d : Nat} {l1 : Int32} {l2 : Int32} {M : I_M} {r : (Int32 × I_M)} (hd : 3 ≤ d) (h : r_refusal l1 l2 M = some r) : I_Ex d 258 [.ref 50, .int l1, .int l2] (i_S X M) (some (.int r.1)) (i_S X r.2) := by
  obtain ⟨d, rfl⟩ : ∃ d1, d = d1 + 1 := ⟨d - 1, by omega⟩
  unfold r_refusal at h
  refine i_ex (e := i_r258) (lv := [some (.ref 50), some (.int l1), some (.int l2)]) rfl (Nat.le_of_ble_eq_true rfl) rfl ?_
  show I_RnE (I_Ex d) i_c258 (0, [some (.ref 50), some (.int l1), some (.int l2)], [], i_S X M) _ _
  refine i_rs 1 (cf' := (1, [some (.ref 50), some (.int l1), some (.int l2)], [.int l1], i_S X M)) rfl ?_
  obtain ⟨q1, hq1, h⟩ := i_bdE h
  refine i_rcall (k := 181) (as := [.int l1]) (cf1 := (4, [some (.ref 50), some (.int l1), some (.int l2)], [], i_S X M)) (cf' := (4, [some (.ref 50), some (.int l1), some (.int l2)], [.int q1.1], i_S X q1.2)) rfl (ok_r_isShelf (by omega) hq1) rfl ?_
  by_cases c2 : q1.1 = (0 : Int32)
  · replace h := (if_pos c2).symm.trans h
    refine i_rbT (c := q1.1 = (0 : Int32)) (t := 7) (n := 9) rfl c2 ?_
    refine i_rs 1 (cf' := (8, [some (.ref 50), some (.int l1), some (.int l2)], [.int (-1 : Int32)], i_S X q1.2)) rfl ?_
    obtain rfl := Option.some.inj h
    exact i_rret rfl rfl
  · replace h := (if_neg c2).symm.trans h
    refine i_rbF (c := q1.1 = (0 : Int32)) (t := 7) (n := 9) rfl c2 ?_
    refine i_rs 3 (cf' := (14, [some (.ref 50), some (.int l1), some (.int l2)], [.int l1, .ref 70], i_S X q1.2)) rfl ?_
    obtain ⟨g3, h⟩ := i_gE h
    refine i_riald (n := 6) (cf' := (15, [some (.ref 50), some (.int l1), some (.int l2)], [.int (q1.2.1 70 (Int32.toNatClampNeg l1))], i_S X q1.2)) rfl rfl (by decide) g3 rfl ?_
    by_cases c4 : (q1.2.1 70 (Int32.toNatClampNeg l1)) < (0 : Int32)
    · replace h := (if_pos c4).symm.trans h
      refine i_rbT (c := (q1.2.1 70 (Int32.toNatClampNeg l1)) < (0 : Int32)) (t := 18) (n := 21) rfl c4 ?_
      refine i_rs 1 (cf' := (20, [some (.ref 50), some (.int l1), some (.int l2)], [.int (-11 : Int32)], i_S X q1.2)) rfl ?_
      obtain rfl := Option.some.inj h
      exact i_rret rfl rfl
    · replace h := (if_neg c4).symm.trans h
      refine i_rbF (c := (q1.2.1 70 (Int32.toNatClampNeg l1)) < (0 : Int32)) (t := 18) (n := 21) rfl c4 ?_
      refine i_rs 3 (cf' := (26, [some (.ref 50), some (.int l1), some (.int l2)], [.int l1, .ref 70], i_S X q1.2)) rfl ?_
      refine i_riald (n := 6) (cf' := (27, [some (.ref 50), some (.int l1), some (.int l2)], [.int (q1.2.1 70 (Int32.toNatClampNeg l1))], i_S X q1.2)) rfl rfl (by decide) g3 rfl ?_
      refine i_rs 1 (cf' := (29, [some (.ref 50), some (.int l1), some (.int l2)], [.int (50 : Int32), .int (q1.2.1 70 (Int32.toNatClampNeg l1))], i_S X q1.2)) rfl ?_
      by_cases c5 : (q1.2.1 70 (Int32.toNatClampNeg l1)) < (50 : Int32)
      · replace h := (if_pos c5).symm.trans h
        refine i_rbT (c := (q1.2.1 70 (Int32.toNatClampNeg l1)) < (50 : Int32)) (t := 32) (n := 35) rfl c5 ?_
        refine i_rs 1 (cf' := (34, [some (.ref 50), some (.int l1), some (.int l2)], [.int (-12 : Int32)], i_S X q1.2)) rfl ?_
        obtain rfl := Option.some.inj h
        exact i_rret rfl rfl
      · replace h := (if_neg c5).symm.trans h
        refine i_rbF (c := (q1.2.1 70 (Int32.toNatClampNeg l1)) < (50 : Int32)) (t := 32) (n := 35) rfl c5 ?_
        refine i_rs 1 (cf' := (36, [some (.ref 50), some (.int l1), some (.int l2)], [.int l2], i_S X q1.2)) rfl ?_
        by_cases c6 : l2 < (0 : Int32)
        · replace h := (if_pos c6).symm.trans h
          refine i_rbT (c := l2 < (0 : Int32)) (t := 53) (n := 39) rfl c6 ?_
          refine i_rs 1 (cf' := (55, [some (.ref 50), some (.int l1), some (.int l2)], [.int (-13 : Int32)], i_S X q1.2)) rfl ?_
          obtain rfl := Option.some.inj h
          exact i_rret rfl rfl
        · replace h := (if_neg c6).symm.trans h
          refine i_rbF (c := l2 < (0 : Int32)) (t := 53) (n := 39) rfl c6 ?_
          refine i_rs 4 (cf' := (45, [some (.ref 50), some (.int l1), some (.int l2)], [.int l1, .ref 71, .int l2], i_S X q1.2)) rfl ?_
          refine i_riald (n := 6) (cf' := (46, [some (.ref 50), some (.int l1), some (.int l2)], [.int (q1.2.1 71 (Int32.toNatClampNeg l1)), .int l2], i_S X q1.2)) rfl rfl (by decide) g3 rfl ?_
          by_cases c7 : l2 < (q1.2.1 71 (Int32.toNatClampNeg l1))
          · replace h := (if_pos c7).symm.trans h
            refine i_rbT (c := l2 < (q1.2.1 71 (Int32.toNatClampNeg l1))) (t := 49) (n := 53) rfl c7 ?_
            refine i_rs 2 (cf' := (55, [some (.ref 50), some (.int l1), some (.int l2)], [.int (0 : Int32)], i_S X q1.2)) rfl ?_
            obtain rfl := Option.some.inj h
            exact i_rret rfl rfl
          · replace h := (if_neg c7).symm.trans h
            refine i_rbF (c := l2 < (q1.2.1 71 (Int32.toNatClampNeg l1))) (t := 49) (n := 53) rfl c7 ?_
            refine i_rs 1 (cf' := (55, [some (.ref 50), some (.int l1), some (.int l2)], [.int (-13 : Int32)], i_S X q1.2)) rfl ?_
            obtain rfl := Option.some.inj h
            exact i_rret rfl rfl
def r_asSort (l0 : Int32) (l1 : Int64) (M : I_M) : Option (Int64 × I_M) :=
  (if l0 = (0 : Int32) then
      some ((Int32.toInt64 (Int8.toInt32 (Int32.toInt8 (Int64.toInt32 l1)))), M)
    else
      (if l0 = (1 : Int32) then
        some ((Int32.toInt64 (Int16.toInt32 (Int32.toInt16 (Int64.toInt32 l1)))), M)
      else
        (if l0 = (2 : Int32) then
          some ((Int32.toInt64 (Int64.toInt32 l1)), M)
        else
          (if l0 = (4 : Int32) then
            (if (lg_cmp l1 (0 : Int64)) = (0 : Int32) then
              some ((0 : Int64), M)
            else
              some ((1 : Int64), M))
          else
            some (l1, M)))))
theorem ok_r_asSort {X : Nat × (Nat → Int32)} {d : Nat} {l0 : Int32} {l1 : Int64} {M : I_M} {r : (Int64 × I_M)} (hd : 1 ≤ d) (h : r_asSort l0 l1 M = some r) : I_Ex d 259 [.int l0, .long l1] (i_S X M) (some (.long r.1)) (i_S X r.2) := by
  obtain ⟨d, rfl⟩ : ∃ d1, d = d1 + 1 := ⟨d - 1, by omega⟩
  unfold r_asSort at h
  refine i_ex (e := i_r259) (lv := [some (.int l0), some (.long l1), none]) rfl (Nat.le_of_ble_eq_true rfl) rfl ?_
  show I_RnE (I_Ex d) i_c259 (0, [some (.int l0), some (.long l1), none], [], i_S X M) _ _
  refine i_rs 1 (cf' := (1, [some (.int l0), some (.long l1), none], [.int l0], i_S X M)) rfl ?_
  by_cases c1 : l0 = (0 : Int32)
  · replace h := (if_pos c1).symm.trans h
    refine i_rbT (c := l0 = (0 : Int32)) (t := 4) (n := 11) rfl c1 ?_
    refine i_rs 5 (cf' := (54, [some (.int l0), some (.long l1), none], [.long (Int32.toInt64 (Int8.toInt32 (Int32.toInt8 (Int64.toInt32 l1))))], i_S X M)) rfl ?_
    obtain rfl := Option.some.inj h
    exact i_rret rfl rfl
  · replace h := (if_neg c1).symm.trans h
    refine i_rbF (c := l0 = (0 : Int32)) (t := 4) (n := 11) rfl c1 ?_
    refine i_rs 2 (cf' := (13, [some (.int l0), some (.long l1), none], [.int (1 : Int32), .int l0], i_S X M)) rfl ?_
    by_cases c2 : l0 = (1 : Int32)
    · replace h := (if_pos c2).symm.trans h
      refine i_rbT (c := l0 = (1 : Int32)) (t := 16) (n := 23) rfl c2 ?_
      refine i_rs 5 (cf' := (54, [some (.int l0), some (.long l1), none], [.long (Int32.toInt64 (Int16.toInt32 (Int32.toInt16 (Int64.toInt32 l1))))], i_S X M)) rfl ?_
      obtain rfl := Option.some.inj h
      exact i_rret rfl rfl
    · replace h := (if_neg c2).symm.trans h
      refine i_rbF (c := l0 = (1 : Int32)) (t := 16) (n := 23) rfl c2 ?_
      refine i_rs 2 (cf' := (25, [some (.int l0), some (.long l1), none], [.int (2 : Int32), .int l0], i_S X M)) rfl ?_
      by_cases c3 : l0 = (2 : Int32)
      · replace h := (if_pos c3).symm.trans h
        refine i_rbT (c := l0 = (2 : Int32)) (t := 28) (n := 34) rfl c3 ?_
        refine i_rs 4 (cf' := (54, [some (.int l0), some (.long l1), none], [.long (Int32.toInt64 (Int64.toInt32 l1))], i_S X M)) rfl ?_
        obtain rfl := Option.some.inj h
        exact i_rret rfl rfl
      · replace h := (if_neg c3).symm.trans h
        refine i_rbF (c := l0 = (2 : Int32)) (t := 28) (n := 34) rfl c3 ?_
        refine i_rs 2 (cf' := (36, [some (.int l0), some (.long l1), none], [.int (4 : Int32), .int l0], i_S X M)) rfl ?_
        by_cases c4 : l0 = (4 : Int32)
        · replace h := (if_pos c4).symm.trans h
          refine i_rbT (c := l0 = (4 : Int32)) (t := 39) (n := 53) rfl c4 ?_
          refine i_rs 3 (cf' := (42, [some (.int l0), some (.long l1), none], [.int (lg_cmp l1 (0 : Int64))], i_S X M)) rfl ?_
          by_cases c5 : (lg_cmp l1 (0 : Int64)) = (0 : Int32)
          · replace h := (if_pos c5).symm.trans h
            refine i_rbT (c := (lg_cmp l1 (0 : Int64)) = (0 : Int32)) (t := 49) (n := 45) rfl c5 ?_
            refine i_rs 2 (cf' := (54, [some (.int l0), some (.long l1), none], [.long (0 : Int64)], i_S X M)) rfl ?_
            obtain rfl := Option.some.inj h
            exact i_rret rfl rfl
          · replace h := (if_neg c5).symm.trans h
            refine i_rbF (c := (lg_cmp l1 (0 : Int64)) = (0 : Int32)) (t := 49) (n := 45) rfl c5 ?_
            refine i_rs 2 (cf' := (54, [some (.int l0), some (.long l1), none], [.long (1 : Int64)], i_S X M)) rfl ?_
            obtain rfl := Option.some.inj h
            exact i_rret rfl rfl
        · replace h := (if_neg c4).symm.trans h
          refine i_rbF (c := l0 = (4 : Int32)) (t := 39) (n := 53) rfl c4 ?_
          refine i_rs 1 (cf' := (54, [some (.int l0), some (.long l1), none], [.long l1], i_S X M)) rfl ?_
          obtain rfl := Option.some.inj h
          exact i_rret rfl rfl
def r_put (l1 : Int32) (l2 : Int32) (l3 : Int64) (M : I_M) : Option (Int32 × I_M) :=
  Option.bind (r_refusal l1 l2 M) (fun q1 => (if q1.1 = (0 : Int32) then
      i_g l1 6 (Option.bind (r_asSort ((q1.2.1 70 (Int32.toNatClampNeg l1)) - (50 : Int32)) l3 q1.2) (fun q4 => i_g (((60 : Int32) * l1) + l2) 360 ((if q1.1 = (0 : Int32) then
        some ((1 : Int32), (i_wL q4.2 72 (Int32.toNatClampNeg (((60 : Int32) * l1) + l2)) q4.1))
      else
        some (q1.1, (i_wL q4.2 72 (Int32.toNatClampNeg (((60 : Int32) * l1) + l2)) q4.1))))))
    else
      (if q1.1 = (0 : Int32) then
        some ((1 : Int32), q1.2)
      else
        some (q1.1, q1.2))))
theorem ok_r_put {X : Nat × (Nat → Int32)} {d : Nat} {l1 : Int32} {l2 : Int32} {l3 : Int64} {M : I_M} {r : (Int32 × I_M)} (hd : 4 ≤ d) (h : r_put l1 l2 l3 M = some r) : I_Ex d 257 [.ref 50, .int l1, .int l2, .long l3] (i_S X M) (some (.int r.1)) (i_S X r.2) := by
  obtain ⟨d, rfl⟩ : ∃ d1, d = d1 + 1 := ⟨d - 1, by omega⟩
  unfold r_put at h
  refine i_ex (e := i_r257) (lv := [some (.ref 50), some (.int l1), some (.int l2), some (.long l3), none, none]) rfl (Nat.le_of_ble_eq_true rfl) rfl ?_
  show I_RnE (I_Ex d) i_c257 (0, [some (.ref 50), some (.int l1), some (.int l2), some (.long l3), none, none], [], i_S X M) _ _
  refine i_rs 3 (cf' := (3, [some (.ref 50), some (.int l1), some (.int l2), some (.long l3), none, none], [.int l2, .int l1, .ref 50], i_S X M)) rfl ?_
  obtain ⟨q1, hq1, h⟩ := i_bdE h
  refine i_rcall (k := 258) (as := [.ref 50, .int l1, .int l2]) (cf1 := (6, [some (.ref 50), some (.int l1), some (.int l2), some (.long l3), none, none], [], i_S X M)) (cf' := (6, [some (.ref 50), some (.int l1), some (.int l2), some (.long l3), none, none], [.int q1.1], i_S X q1.2)) rfl (ok_r_refusal (by omega) hq1) rfl ?_
  refine i_rs 2 (cf' := (10, [some (.ref 50), some (.int l1), some (.int l2), some (.long l3), none, some (.int q1.1)], [.int q1.1], i_S X q1.2)) rfl ?_
  by_cases c2 : q1.1 = (0 : Int32)
  · replace h := (if_pos c2).symm.trans h
    refine i_rbT (c := q1.1 = (0 : Int32)) (t := 13) (n := 37) rfl c2 ?_
    refine i_rs 10 (cf' := (28, [some (.ref 50), some (.int l1), some (.int l2), some (.long l3), none, some (.int q1.1)], [.int l1, .ref 70, .int (((60 : Int32) * l1) + l2), .ref 72], i_S X q1.2)) rfl ?_
    obtain ⟨g3, h⟩ := i_gE h
    refine i_riald (n := 6) (cf' := (29, [some (.ref 50), some (.int l1), some (.int l2), some (.long l3), none, some (.int q1.1)], [.int (q1.2.1 70 (Int32.toNatClampNeg l1)), .int (((60 : Int32) * l1) + l2), .ref 72], i_S X q1.2)) rfl rfl (by decide) g3 rfl ?_
    refine i_rs 3 (cf' := (33, [some (.ref 50), some (.int l1), some (.int l2), some (.long l3), none, some (.int q1.1)], [.long l3, .int ((q1.2.1 70 (Int32.toNatClampNeg l1)) - (50 : Int32)), .int (((60 : Int32) * l1) + l2), .ref 72], i_S X q1.2)) rfl ?_
    obtain ⟨q4, hq4, h⟩ := i_bdE h
    refine i_rcall (k := 259) (as := [.int ((q1.2.1 70 (Int32.toNatClampNeg l1)) - (50 : Int32)), .long l3]) (cf1 := (36, [some (.ref 50), some (.int l1), some (.int l2), some (.long l3), none, some (.int q1.1)], [.int (((60 : Int32) * l1) + l2), .ref 72], i_S X q1.2)) (cf' := (36, [some (.ref 50), some (.int l1), some (.int l2), some (.long l3), none, some (.int q1.1)], [.long q4.1, .int (((60 : Int32) * l1) + l2), .ref 72], i_S X q4.2)) rfl (ok_r_asSort (by omega) hq4) rfl ?_
    obtain ⟨g5, h⟩ := i_gE h
    refine i_rlast (n := 360) (cf' := (37, [some (.ref 50), some (.int l1), some (.int l2), some (.long l3), none, some (.int q1.1)], [], i_S X (i_wL q4.2 72 (Int32.toNatClampNeg (((60 : Int32) * l1) + l2)) q4.1))) rfl rfl g5 rfl ?_
    refine i_rs 1 (cf' := (39, [some (.ref 50), some (.int l1), some (.int l2), some (.long l3), none, some (.int q1.1)], [.int q1.1], i_S X (i_wL q4.2 72 (Int32.toNatClampNeg (((60 : Int32) * l1) + l2)) q4.1))) rfl ?_
    by_cases c6 : q1.1 = (0 : Int32)
    · replace h := (if_pos c6).symm.trans h
      refine i_rbT (c := q1.1 = (0 : Int32)) (t := 42) (n := 46) rfl c6 ?_
      refine i_rs 2 (cf' := (48, [some (.ref 50), some (.int l1), some (.int l2), some (.long l3), none, some (.int q1.1)], [.int (1 : Int32)], i_S X (i_wL q4.2 72 (Int32.toNatClampNeg (((60 : Int32) * l1) + l2)) q4.1))) rfl ?_
      obtain rfl := Option.some.inj h
      exact i_rret rfl rfl
    · replace h := (if_neg c6).symm.trans h
      refine i_rbF (c := q1.1 = (0 : Int32)) (t := 42) (n := 46) rfl c6 ?_
      refine i_rs 1 (cf' := (48, [some (.ref 50), some (.int l1), some (.int l2), some (.long l3), none, some (.int q1.1)], [.int q1.1], i_S X (i_wL q4.2 72 (Int32.toNatClampNeg (((60 : Int32) * l1) + l2)) q4.1))) rfl ?_
      obtain rfl := Option.some.inj h
      exact i_rret rfl rfl
  · replace h := (if_neg c2).symm.trans h
    refine i_rbF (c := q1.1 = (0 : Int32)) (t := 13) (n := 37) rfl c2 ?_
    refine i_rs 1 (cf' := (39, [some (.ref 50), some (.int l1), some (.int l2), some (.long l3), none, some (.int q1.1)], [.int q1.1], i_S X q1.2)) rfl ?_
    by_cases c7 : q1.1 = (0 : Int32)
    · replace h := (if_pos c7).symm.trans h
      refine i_rbT (c := q1.1 = (0 : Int32)) (t := 42) (n := 46) rfl c7 ?_
      refine i_rs 2 (cf' := (48, [some (.ref 50), some (.int l1), some (.int l2), some (.long l3), none, some (.int q1.1)], [.int (1 : Int32)], i_S X q1.2)) rfl ?_
      obtain rfl := Option.some.inj h
      exact i_rret rfl rfl
    · replace h := (if_neg c7).symm.trans h
      refine i_rbF (c := q1.1 = (0 : Int32)) (t := 42) (n := 46) rfl c7 ?_
      refine i_rs 1 (cf' := (48, [some (.ref 50), some (.int l1), some (.int l2), some (.long l3), none, some (.int q1.1)], [.int q1.1], i_S X q1.2)) rfl ?_
      obtain rfl := Option.some.inj h
      exact i_rret rfl rfl
def b_element (l1 : Int32) (l2 : Int32) (M : I_M) : Option (Int64 × I_M) :=
  Option.bind (b_refusal l1 l2 M) (fun q1 => (if q1.1 = (0 : Int32) then
      Option.bind (b_Shelves_get l1 l2 q1.2) (fun q3 => some (q3.1, q3.2))
    else
      some ((-9223372036854775808 : Int64), q1.2)))
theorem ok_b_element {X : Nat × (Nat → Int32)} {d : Nat} {l1 : Int32} {l2 : Int32} {M : I_M} {r : (Int64 × I_M)} (hd : 3 ≤ d) (h : b_element l1 l2 M = some r) : I_Ex d 163 [.ref 0, .int l1, .int l2] (i_S X M) (some (.long r.1)) (i_S X r.2) := by
  obtain ⟨d, rfl⟩ : ∃ d1, d = d1 + 1 := ⟨d - 1, by omega⟩
  unfold b_element at h
  refine i_ex (e := i_r163) (lv := [some (.ref 0), some (.int l1), some (.int l2)]) rfl (Nat.le_of_ble_eq_true rfl) rfl ?_
  show I_RnE (I_Ex d) i_c163 (0, [some (.ref 0), some (.int l1), some (.int l2)], [], i_S X M) _ _
  refine i_rs 3 (cf' := (3, [some (.ref 0), some (.int l1), some (.int l2)], [.int l2, .int l1, .ref 0], i_S X M)) rfl ?_
  obtain ⟨q1, hq1, h⟩ := i_bdE h
  refine i_rcall (k := 160) (as := [.ref 0, .int l1, .int l2]) (cf1 := (6, [some (.ref 0), some (.int l1), some (.int l2)], [], i_S X M)) (cf' := (6, [some (.ref 0), some (.int l1), some (.int l2)], [.int q1.1], i_S X q1.2)) rfl (ok_b_refusal (by omega) hq1) rfl ?_
  by_cases c2 : q1.1 = (0 : Int32)
  · replace h := (if_pos c2).symm.trans h
    refine i_rbT (c := q1.1 = (0 : Int32)) (t := 15) (n := 9) rfl c2 ?_
    refine i_rs 4 (cf' := (21, [some (.ref 0), some (.int l1), some (.int l2)], [.int l2, .int l1, .ref 41], i_S X q1.2)) rfl ?_
    obtain ⟨q3, hq3, h⟩ := i_bdE h
    refine i_rcall (k := 27) (as := [.ref 41, .int l1, .int l2]) (cf1 := (24, [some (.ref 0), some (.int l1), some (.int l2)], [], i_S X q1.2)) (cf' := (24, [some (.ref 0), some (.int l1), some (.int l2)], [.long q3.1], i_S X q3.2)) rfl (ok_b_Shelves_get (by omega) hq3) rfl ?_
    obtain rfl := Option.some.inj h
    exact i_rret rfl rfl
  · replace h := (if_neg c2).symm.trans h
    refine i_rbF (c := q1.1 = (0 : Int32)) (t := 15) (n := 9) rfl c2 ?_
    refine i_rs 2 (cf' := (24, [some (.ref 0), some (.int l1), some (.int l2)], [.long (-9223372036854775808 : Int64)], i_S X q1.2)) rfl ?_
    obtain rfl := Option.some.inj h
    exact i_rret rfl rfl
def r_element (l1 : Int32) (l2 : Int32) (M : I_M) : Option (Int64 × I_M) :=
  Option.bind (r_refusal l1 l2 M) (fun q1 => (if q1.1 = (0 : Int32) then
      i_g (((60 : Int32) * l1) + l2) 360 (some ((q1.2.2 72 (Int32.toNatClampNeg (((60 : Int32) * l1) + l2))), q1.2))
    else
      some ((-9223372036854775808 : Int64), q1.2)))
theorem ok_r_element {X : Nat × (Nat → Int32)} {d : Nat} {l1 : Int32} {l2 : Int32} {M : I_M} {r : (Int64 × I_M)} (hd : 4 ≤ d) (h : r_element l1 l2 M = some r) : I_Ex d 260 [.ref 50, .int l1, .int l2] (i_S X M) (some (.long r.1)) (i_S X r.2) := by
  obtain ⟨d, rfl⟩ : ∃ d1, d = d1 + 1 := ⟨d - 1, by omega⟩
  unfold r_element at h
  refine i_ex (e := i_r260) (lv := [some (.ref 50), some (.int l1), some (.int l2)]) rfl (Nat.le_of_ble_eq_true rfl) rfl ?_
  show I_RnE (I_Ex d) i_c260 (0, [some (.ref 50), some (.int l1), some (.int l2)], [], i_S X M) _ _
  refine i_rs 3 (cf' := (3, [some (.ref 50), some (.int l1), some (.int l2)], [.int l2, .int l1, .ref 50], i_S X M)) rfl ?_
  obtain ⟨q1, hq1, h⟩ := i_bdE h
  refine i_rcall (k := 258) (as := [.ref 50, .int l1, .int l2]) (cf1 := (6, [some (.ref 50), some (.int l1), some (.int l2)], [], i_S X M)) (cf' := (6, [some (.ref 50), some (.int l1), some (.int l2)], [.int q1.1], i_S X q1.2)) rfl (ok_r_refusal (by omega) hq1) rfl ?_
  by_cases c2 : q1.1 = (0 : Int32)
  · replace h := (if_pos c2).symm.trans h
    refine i_rbT (c := q1.1 = (0 : Int32)) (t := 15) (n := 9) rfl c2 ?_
    refine i_rs 7 (cf' := (25, [some (.ref 50), some (.int l1), some (.int l2)], [.int (((60 : Int32) * l1) + l2), .ref 72], i_S X q1.2)) rfl ?_
    obtain ⟨g3, h⟩ := i_gE h
    refine i_rlald (n := 360) (cf' := (26, [some (.ref 50), some (.int l1), some (.int l2)], [.long (q1.2.2 72 (Int32.toNatClampNeg (((60 : Int32) * l1) + l2)))], i_S X q1.2)) rfl rfl g3 rfl ?_
    obtain rfl := Option.some.inj h
    exact i_rret rfl rfl
  · replace h := (if_neg c2).symm.trans h
    refine i_rbF (c := q1.1 = (0 : Int32)) (t := 15) (n := 9) rfl c2 ?_
    refine i_rs 2 (cf' := (26, [some (.ref 50), some (.int l1), some (.int l2)], [.long (-9223372036854775808 : Int64)], i_S X q1.2)) rfl ?_
    obtain rfl := Option.some.inj h
    exact i_rret rfl rfl
def b_Shelves_hasSpan (l1 : Int32) (l2 : Int32) (l3 : Int32) (M : I_M) : Option (Int32 × I_M) :=
  (if l2 < (0 : Int32) then
      some ((0 : Int32), M)
    else
      (if l3 < (0 : Int32) then
        some ((0 : Int32), M)
      else
        i_g l1 6 ((if (M.1 43 (Int32.toNatClampNeg l1)) < l3 then
          some ((0 : Int32), M)
        else
          (if ((M.1 43 (Int32.toNatClampNeg l1)) - l3) < l2 then
            some ((0 : Int32), M)
          else
            some ((1 : Int32), M))))))
theorem ok_b_Shelves_hasSpan {X : Nat × (Nat → Int32)} {d : Nat} {l1 : Int32} {l2 : Int32} {l3 : Int32} {M : I_M} {r : (Int32 × I_M)} (hd : 1 ≤ d) (h : b_Shelves_hasSpan l1 l2 l3 M = some r) : I_Ex d 165 [.ref 41, .int l1, .int l2, .int l3] (i_S X M) (some (.int r.1)) (i_S X r.2) := by
  obtain ⟨d, rfl⟩ : ∃ d1, d = d1 + 1 := ⟨d - 1, by omega⟩
  unfold b_Shelves_hasSpan at h
  refine i_ex (e := i_r165) (lv := [some (.ref 41), some (.int l1), some (.int l2), some (.int l3)]) rfl (Nat.le_of_ble_eq_true rfl) rfl ?_
  show I_RnE (I_Ex d) i_c165 (0, [some (.ref 41), some (.int l1), some (.int l2), some (.int l3)], [], i_S X M) _ _
  refine i_rs 1 (cf' := (1, [some (.ref 41), some (.int l1), some (.int l2), some (.int l3)], [.int l2], i_S X M)) rfl ?_
  by_cases c1 : l2 < (0 : Int32)
  · replace h := (if_pos c1).symm.trans h
    refine i_rbT (c := l2 < (0 : Int32)) (t := 34) (n := 4) rfl c1 ?_
    refine i_rs 1 (cf' := (35, [some (.ref 41), some (.int l1), some (.int l2), some (.int l3)], [.int (0 : Int32)], i_S X M)) rfl ?_
    obtain rfl := Option.some.inj h
    exact i_rretZ rfl (Or.inl rfl) rfl
  · replace h := (if_neg c1).symm.trans h
    refine i_rbF (c := l2 < (0 : Int32)) (t := 34) (n := 4) rfl c1 ?_
    refine i_rs 1 (cf' := (5, [some (.ref 41), some (.int l1), some (.int l2), some (.int l3)], [.int l3], i_S X M)) rfl ?_
    by_cases c2 : l3 < (0 : Int32)
    · replace h := (if_pos c2).symm.trans h
      refine i_rbT (c := l3 < (0 : Int32)) (t := 34) (n := 8) rfl c2 ?_
      refine i_rs 1 (cf' := (35, [some (.ref 41), some (.int l1), some (.int l2), some (.int l3)], [.int (0 : Int32)], i_S X M)) rfl ?_
      obtain rfl := Option.some.inj h
      exact i_rretZ rfl (Or.inl rfl) rfl
    · replace h := (if_neg c2).symm.trans h
      refine i_rbF (c := l3 < (0 : Int32)) (t := 34) (n := 8) rfl c2 ?_
      refine i_rs 4 (cf' := (14, [some (.ref 41), some (.int l1), some (.int l2), some (.int l3)], [.int l1, .ref 43, .int l3], i_S X M)) rfl ?_
      obtain ⟨g3, h⟩ := i_gE h
      refine i_riald (n := 6) (cf' := (15, [some (.ref 41), some (.int l1), some (.int l2), some (.int l3)], [.int (M.1 43 (Int32.toNatClampNeg l1)), .int l3], i_S X M)) rfl rfl (by decide) g3 rfl ?_
      by_cases c4 : (M.1 43 (Int32.toNatClampNeg l1)) < l3
      · replace h := (if_pos c4).symm.trans h
        refine i_rbT (c := (M.1 43 (Int32.toNatClampNeg l1)) < l3) (t := 34) (n := 18) rfl c4 ?_
        refine i_rs 1 (cf' := (35, [some (.ref 41), some (.int l1), some (.int l2), some (.int l3)], [.int (0 : Int32)], i_S X M)) rfl ?_
        obtain rfl := Option.some.inj h
        exact i_rretZ rfl (Or.inl rfl) rfl
      · replace h := (if_neg c4).symm.trans h
        refine i_rbF (c := (M.1 43 (Int32.toNatClampNeg l1)) < l3) (t := 34) (n := 18) rfl c4 ?_
        refine i_rs 4 (cf' := (24, [some (.ref 41), some (.int l1), some (.int l2), some (.int l3)], [.int l1, .ref 43, .int l2], i_S X M)) rfl ?_
        refine i_riald (n := 6) (cf' := (25, [some (.ref 41), some (.int l1), some (.int l2), some (.int l3)], [.int (M.1 43 (Int32.toNatClampNeg l1)), .int l2], i_S X M)) rfl rfl (by decide) g3 rfl ?_
        refine i_rs 2 (cf' := (27, [some (.ref 41), some (.int l1), some (.int l2), some (.int l3)], [.int ((M.1 43 (Int32.toNatClampNeg l1)) - l3), .int l2], i_S X M)) rfl ?_
        by_cases c5 : ((M.1 43 (Int32.toNatClampNeg l1)) - l3) < l2
        · replace h := (if_pos c5).symm.trans h
          refine i_rbT (c := ((M.1 43 (Int32.toNatClampNeg l1)) - l3) < l2) (t := 34) (n := 30) rfl c5 ?_
          refine i_rs 1 (cf' := (35, [some (.ref 41), some (.int l1), some (.int l2), some (.int l3)], [.int (0 : Int32)], i_S X M)) rfl ?_
          obtain rfl := Option.some.inj h
          exact i_rretZ rfl (Or.inl rfl) rfl
        · replace h := (if_neg c5).symm.trans h
          refine i_rbF (c := ((M.1 43 (Int32.toNatClampNeg l1)) - l3) < l2) (t := 34) (n := 30) rfl c5 ?_
          refine i_rs 2 (cf' := (35, [some (.ref 41), some (.int l1), some (.int l2), some (.int l3)], [.int (1 : Int32)], i_S X M)) rfl ?_
          obtain rfl := Option.some.inj h
          exact i_rretZ rfl (Or.inr rfl) rfl
def b_Shelves_move (l1 : Int32) (l2 : Int32) (l3 : Int32) (l4 : Int32) (l5 : Int32) (M : I_M) : Option I_M :=
  i_cg ((l1 * (60 : Int32)) + l2) ((l3 * (60 : Int32)) + l4) l5 360 360 (some (i_cL M 45 45 ((l1 * (60 : Int32)) + l2) ((l3 * (60 : Int32)) + l4) l5))
theorem ok_b_Shelves_move {X : Nat × (Nat → Int32)} {d : Nat} {l1 : Int32} {l2 : Int32} {l3 : Int32} {l4 : Int32} {l5 : Int32} {M : I_M} {r : I_M} (hd : 1 ≤ d) (h : b_Shelves_move l1 l2 l3 l4 l5 M = some r) : I_Ex d 166 [.ref 41, .int l1, .int l2, .int l3, .int l4, .int l5] (i_S X M) none (i_S X r) := by
  obtain ⟨d, rfl⟩ : ∃ d1, d = d1 + 1 := ⟨d - 1, by omega⟩
  unfold b_Shelves_move at h
  refine i_ex (e := i_r166) (lv := [some (.ref 41), some (.int l1), some (.int l2), some (.int l3), some (.int l4), some (.int l5)]) rfl (Nat.le_of_ble_eq_true rfl) rfl ?_
  show I_RnE (I_Ex d) i_c166 (0, [some (.ref 41), some (.int l1), some (.int l2), some (.int l3), some (.int l4), some (.int l5)], [], i_S X M) _ _
  refine i_rs 15 (cf' := (23, [some (.ref 41), some (.int l1), some (.int l2), some (.int l3), some (.int l4), some (.int l5)], [.int l5, .int ((l3 * (60 : Int32)) + l4), .ref 45, .int ((l1 * (60 : Int32)) + l2), .ref 45], i_S X M)) rfl ?_
  obtain ⟨g1, h⟩ := i_cgE h
  refine i_rcpyL (n0 := 360) (n1 := 360) (cf' := (26, [some (.ref 41), some (.int l1), some (.int l2), some (.int l3), some (.int l4), some (.int l5)], [], i_S X (i_cL M 45 45 ((l1 * (60 : Int32)) + l2) ((l3 * (60 : Int32)) + l4) l5))) rfl rfl rfl g1 (by decide) rfl ?_
  obtain rfl := Option.some.inj h
  exact i_rret rfl rfl
def b_shift (l1 : Int32) (l2 : Int32) (l3 : Int32) (l4 : Int32) (l5 : Int32) (M : I_M) : Option (Int32 × I_M) :=
  Option.bind (b_Shelves_isShelf l1 M) (fun q1 => (if q1.1 = (0 : Int32) then
      some ((-1 : Int32), q1.2)
    else
      Option.bind (b_Shelves_isShelf l3 q1.2) (fun q3 => (if q3.1 = (0 : Int32) then
        some ((-1 : Int32), q3.2)
      else
        i_g l1 6 (i_g l3 6 ((if (q3.2.1 42 (Int32.toNatClampNeg l1)) = (-1 : Int32) then
          some ((-11 : Int32), q3.2)
        else
          (if (q3.2.1 42 (Int32.toNatClampNeg l3)) = (-1 : Int32) then
            some ((-11 : Int32), q3.2)
          else
            (if (q3.2.1 42 (Int32.toNatClampNeg l1)) = (5 : Int32) then
              some ((-12 : Int32), q3.2)
            else
              (if (q3.2.1 42 (Int32.toNatClampNeg l1)) = (q3.2.1 42 (Int32.toNatClampNeg l3)) then
                Option.bind (b_Shelves_hasSpan l1 l2 l5 q3.2) (fun q11 => (if q11.1 = (0 : Int32) then
                  some ((-13 : Int32), q11.2)
                else
                  Option.bind (b_Shelves_hasSpan l3 l4 l5 q11.2) (fun q13 => (if q13.1 = (0 : Int32) then
                    some ((-13 : Int32), q13.2)
                  else
                    Option.bind (b_Shelves_move l1 l2 l3 l4 l5 q13.2) (fun q15 => some (l5, q15))))))
              else
                some ((-12 : Int32), q3.2)))))))))))
theorem ok_b_shift {X : Nat × (Nat → Int32)} {d : Nat} {l1 : Int32} {l2 : Int32} {l3 : Int32} {l4 : Int32} {l5 : Int32} {M : I_M} {r : (Int32 × I_M)} (hd : 2 ≤ d) (h : b_shift l1 l2 l3 l4 l5 M = some r) : I_Ex d 164 [.ref 0, .int l1, .int l2, .int l3, .int l4, .int l5] (i_S X M) (some (.int r.1)) (i_S X r.2) := by
  obtain ⟨d, rfl⟩ : ∃ d1, d = d1 + 1 := ⟨d - 1, by omega⟩
  unfold b_shift at h
  refine i_ex (e := i_r164) (lv := [some (.ref 0), some (.int l1), some (.int l2), some (.int l3), some (.int l4), some (.int l5), none, none]) rfl (Nat.le_of_ble_eq_true rfl) rfl ?_
  show I_RnE (I_Ex d) i_c164 (0, [some (.ref 0), some (.int l1), some (.int l2), some (.int l3), some (.int l4), some (.int l5), none, none], [], i_S X M) _ _
  refine i_rs 3 (cf' := (5, [some (.ref 0), some (.int l1), some (.int l2), some (.int l3), some (.int l4), some (.int l5), none, none], [.int l1, .ref 41], i_S X M)) rfl ?_
  obtain ⟨q1, hq1, h⟩ := i_bdE h
  refine i_rcall (k := 24) (as := [.ref 41, .int l1]) (cf1 := (8, [some (.ref 0), some (.int l1), some (.int l2), some (.int l3), some (.int l4), some (.int l5), none, none], [], i_S X M)) (cf' := (8, [some (.ref 0), some (.int l1), some (.int l2), some (.int l3), some (.int l4), some (.int l5), none, none], [.int q1.1], i_S X q1.2)) rfl (ok_b_Shelves_isShelf (by omega) hq1) rfl ?_
  by_cases c2 : q1.1 = (0 : Int32)
  · replace h := (if_pos c2).symm.trans h
    refine i_rbT (c := q1.1 = (0 : Int32)) (t := 22) (n := 11) rfl c2 ?_
    refine i_rs 1 (cf' := (23, [some (.ref 0), some (.int l1), some (.int l2), some (.int l3), some (.int l4), some (.int l5), none, none], [.int (-1 : Int32)], i_S X q1.2)) rfl ?_
    obtain rfl := Option.some.inj h
    exact i_rret rfl rfl
  · replace h := (if_neg c2).symm.trans h
    refine i_rbF (c := q1.1 = (0 : Int32)) (t := 22) (n := 11) rfl c2 ?_
    refine i_rs 3 (cf' := (16, [some (.ref 0), some (.int l1), some (.int l2), some (.int l3), some (.int l4), some (.int l5), none, none], [.int l3, .ref 41], i_S X q1.2)) rfl ?_
    obtain ⟨q3, hq3, h⟩ := i_bdE h
    refine i_rcall (k := 24) (as := [.ref 41, .int l3]) (cf1 := (19, [some (.ref 0), some (.int l1), some (.int l2), some (.int l3), some (.int l4), some (.int l5), none, none], [], i_S X q1.2)) (cf' := (19, [some (.ref 0), some (.int l1), some (.int l2), some (.int l3), some (.int l4), some (.int l5), none, none], [.int q3.1], i_S X q3.2)) rfl (ok_b_Shelves_isShelf (by omega) hq3) rfl ?_
    by_cases c4 : q3.1 = (0 : Int32)
    · replace h := (if_pos c4).symm.trans h
      refine i_rbT (c := q3.1 = (0 : Int32)) (t := 22) (n := 24) rfl c4 ?_
      refine i_rs 1 (cf' := (23, [some (.ref 0), some (.int l1), some (.int l2), some (.int l3), some (.int l4), some (.int l5), none, none], [.int (-1 : Int32)], i_S X q3.2)) rfl ?_
      obtain rfl := Option.some.inj h
      exact i_rret rfl rfl
    · replace h := (if_neg c4).symm.trans h
      refine i_rbF (c := q3.1 = (0 : Int32)) (t := 22) (n := 24) rfl c4 ?_
      refine i_rs 4 (cf' := (32, [some (.ref 0), some (.int l1), some (.int l2), some (.int l3), some (.int l4), some (.int l5), none, none], [.int l1, .ref 42], i_S X q3.2)) rfl ?_
      obtain ⟨g5, h⟩ := i_gE h
      refine i_riald (n := 6) (cf' := (33, [some (.ref 0), some (.int l1), some (.int l2), some (.int l3), some (.int l4), some (.int l5), none, none], [.int (q3.2.1 42 (Int32.toNatClampNeg l1))], i_S X q3.2)) rfl rfl (by decide) g5 rfl ?_
      refine i_rs 5 (cf' := (43, [some (.ref 0), some (.int l1), some (.int l2), some (.int l3), some (.int l4), some (.int l5), some (.int (q3.2.1 42 (Int32.toNatClampNeg l1))), none], [.int l3, .ref 42], i_S X q3.2)) rfl ?_
      obtain ⟨g6, h⟩ := i_gE h
      refine i_riald (n := 6) (cf' := (44, [some (.ref 0), some (.int l1), some (.int l2), some (.int l3), some (.int l4), some (.int l5), some (.int (q3.2.1 42 (Int32.toNatClampNeg l1))), none], [.int (q3.2.1 42 (Int32.toNatClampNeg l3))], i_S X q3.2)) rfl rfl (by decide) g6 rfl ?_
      refine i_rs 3 (cf' := (49, [some (.ref 0), some (.int l1), some (.int l2), some (.int l3), some (.int l4), some (.int l5), some (.int (q3.2.1 42 (Int32.toNatClampNeg l1))), some (.int (q3.2.1 42 (Int32.toNatClampNeg l3)))], [.int (-1 : Int32), .int (q3.2.1 42 (Int32.toNatClampNeg l1))], i_S X q3.2)) rfl ?_
      by_cases c7 : (q3.2.1 42 (Int32.toNatClampNeg l1)) = (-1 : Int32)
      · replace h := (if_pos c7).symm.trans h
        refine i_rbT (c := (q3.2.1 42 (Int32.toNatClampNeg l1)) = (-1 : Int32)) (t := 58) (n := 52) rfl c7 ?_
        refine i_rs 1 (cf' := (60, [some (.ref 0), some (.int l1), some (.int l2), some (.int l3), some (.int l4), some (.int l5), some (.int (q3.2.1 42 (Int32.toNatClampNeg l1))), some (.int (q3.2.1 42 (Int32.toNatClampNeg l3)))], [.int (-11 : Int32)], i_S X q3.2)) rfl ?_
        obtain rfl := Option.some.inj h
        exact i_rret rfl rfl
      · replace h := (if_neg c7).symm.trans h
        refine i_rbF (c := (q3.2.1 42 (Int32.toNatClampNeg l1)) = (-1 : Int32)) (t := 58) (n := 52) rfl c7 ?_
        refine i_rs 2 (cf' := (55, [some (.ref 0), some (.int l1), some (.int l2), some (.int l3), some (.int l4), some (.int l5), some (.int (q3.2.1 42 (Int32.toNatClampNeg l1))), some (.int (q3.2.1 42 (Int32.toNatClampNeg l3)))], [.int (-1 : Int32), .int (q3.2.1 42 (Int32.toNatClampNeg l3))], i_S X q3.2)) rfl ?_
        by_cases c8 : (q3.2.1 42 (Int32.toNatClampNeg l3)) = (-1 : Int32)
        · replace h := (if_pos c8).symm.trans h
          refine i_rbT (c := (q3.2.1 42 (Int32.toNatClampNeg l3)) = (-1 : Int32)) (t := 58) (n := 61) rfl c8 ?_
          refine i_rs 1 (cf' := (60, [some (.ref 0), some (.int l1), some (.int l2), some (.int l3), some (.int l4), some (.int l5), some (.int (q3.2.1 42 (Int32.toNatClampNeg l1))), some (.int (q3.2.1 42 (Int32.toNatClampNeg l3)))], [.int (-11 : Int32)], i_S X q3.2)) rfl ?_
          obtain rfl := Option.some.inj h
          exact i_rret rfl rfl
        · replace h := (if_neg c8).symm.trans h
          refine i_rbF (c := (q3.2.1 42 (Int32.toNatClampNeg l3)) = (-1 : Int32)) (t := 58) (n := 61) rfl c8 ?_
          refine i_rs 2 (cf' := (64, [some (.ref 0), some (.int l1), some (.int l2), some (.int l3), some (.int l4), some (.int l5), some (.int (q3.2.1 42 (Int32.toNatClampNeg l1))), some (.int (q3.2.1 42 (Int32.toNatClampNeg l3)))], [.int (5 : Int32), .int (q3.2.1 42 (Int32.toNatClampNeg l1))], i_S X q3.2)) rfl ?_
          by_cases c9 : (q3.2.1 42 (Int32.toNatClampNeg l1)) = (5 : Int32)
          · replace h := (if_pos c9).symm.trans h
            refine i_rbT (c := (q3.2.1 42 (Int32.toNatClampNeg l1)) = (5 : Int32)) (t := 74) (n := 67) rfl c9 ?_
            refine i_rs 1 (cf' := (76, [some (.ref 0), some (.int l1), some (.int l2), some (.int l3), some (.int l4), some (.int l5), some (.int (q3.2.1 42 (Int32.toNatClampNeg l1))), some (.int (q3.2.1 42 (Int32.toNatClampNeg l3)))], [.int (-12 : Int32)], i_S X q3.2)) rfl ?_
            obtain rfl := Option.some.inj h
            exact i_rret rfl rfl
          · replace h := (if_neg c9).symm.trans h
            refine i_rbF (c := (q3.2.1 42 (Int32.toNatClampNeg l1)) = (5 : Int32)) (t := 74) (n := 67) rfl c9 ?_
            refine i_rs 2 (cf' := (71, [some (.ref 0), some (.int l1), some (.int l2), some (.int l3), some (.int l4), some (.int l5), some (.int (q3.2.1 42 (Int32.toNatClampNeg l1))), some (.int (q3.2.1 42 (Int32.toNatClampNeg l3)))], [.int (q3.2.1 42 (Int32.toNatClampNeg l3)), .int (q3.2.1 42 (Int32.toNatClampNeg l1))], i_S X q3.2)) rfl ?_
            by_cases c10 : (q3.2.1 42 (Int32.toNatClampNeg l1)) = (q3.2.1 42 (Int32.toNatClampNeg l3))
            · replace h := (if_pos c10).symm.trans h
              refine i_rbT (c := (q3.2.1 42 (Int32.toNatClampNeg l1)) = (q3.2.1 42 (Int32.toNatClampNeg l3))) (t := 77) (n := 74) rfl c10 ?_
              refine i_rs 5 (cf' := (85, [some (.ref 0), some (.int l1), some (.int l2), some (.int l3), some (.int l4), some (.int l5), some (.int (q3.2.1 42 (Int32.toNatClampNeg l1))), some (.int (q3.2.1 42 (Int32.toNatClampNeg l3)))], [.int l5, .int l2, .int l1, .ref 41], i_S X q3.2)) rfl ?_
              obtain ⟨q11, hq11, h⟩ := i_bdE h
              refine i_rcall (k := 165) (as := [.ref 41, .int l1, .int l2, .int l5]) (cf1 := (88, [some (.ref 0), some (.int l1), some (.int l2), some (.int l3), some (.int l4), some (.int l5), some (.int (q3.2.1 42 (Int32.toNatClampNeg l1))), some (.int (q3.2.1 42 (Int32.toNatClampNeg l3)))], [], i_S X q3.2)) (cf' := (88, [some (.ref 0), some (.int l1), some (.int l2), some (.int l3), some (.int l4), some (.int l5), some (.int (q3.2.1 42 (Int32.toNatClampNeg l1))), some (.int (q3.2.1 42 (Int32.toNatClampNeg l3)))], [.int q11.1], i_S X q11.2)) rfl (ok_b_Shelves_hasSpan (by omega) hq11) rfl ?_
              by_cases c12 : q11.1 = (0 : Int32)
              · replace h := (if_pos c12).symm.trans h
                refine i_rbT (c := q11.1 = (0 : Int32)) (t := 106) (n := 91) rfl c12 ?_
                refine i_rs 1 (cf' := (108, [some (.ref 0), some (.int l1), some (.int l2), some (.int l3), some (.int l4), some (.int l5), some (.int (q3.2.1 42 (Int32.toNatClampNeg l1))), some (.int (q3.2.1 42 (Int32.toNatClampNeg l3)))], [.int (-13 : Int32)], i_S X q11.2)) rfl ?_
                obtain rfl := Option.some.inj h
                exact i_rret rfl rfl
              · replace h := (if_neg c12).symm.trans h
                refine i_rbF (c := q11.1 = (0 : Int32)) (t := 106) (n := 91) rfl c12 ?_
                refine i_rs 5 (cf' := (100, [some (.ref 0), some (.int l1), some (.int l2), some (.int l3), some (.int l4), some (.int l5), some (.int (q3.2.1 42 (Int32.toNatClampNeg l1))), some (.int (q3.2.1 42 (Int32.toNatClampNeg l3)))], [.int l5, .int l4, .int l3, .ref 41], i_S X q11.2)) rfl ?_
                obtain ⟨q13, hq13, h⟩ := i_bdE h
                refine i_rcall (k := 165) (as := [.ref 41, .int l3, .int l4, .int l5]) (cf1 := (103, [some (.ref 0), some (.int l1), some (.int l2), some (.int l3), some (.int l4), some (.int l5), some (.int (q3.2.1 42 (Int32.toNatClampNeg l1))), some (.int (q3.2.1 42 (Int32.toNatClampNeg l3)))], [], i_S X q11.2)) (cf' := (103, [some (.ref 0), some (.int l1), some (.int l2), some (.int l3), some (.int l4), some (.int l5), some (.int (q3.2.1 42 (Int32.toNatClampNeg l1))), some (.int (q3.2.1 42 (Int32.toNatClampNeg l3)))], [.int q13.1], i_S X q13.2)) rfl (ok_b_Shelves_hasSpan (by omega) hq13) rfl ?_
                by_cases c14 : q13.1 = (0 : Int32)
                · replace h := (if_pos c14).symm.trans h
                  refine i_rbT (c := q13.1 = (0 : Int32)) (t := 106) (n := 109) rfl c14 ?_
                  refine i_rs 1 (cf' := (108, [some (.ref 0), some (.int l1), some (.int l2), some (.int l3), some (.int l4), some (.int l5), some (.int (q3.2.1 42 (Int32.toNatClampNeg l1))), some (.int (q3.2.1 42 (Int32.toNatClampNeg l3)))], [.int (-13 : Int32)], i_S X q13.2)) rfl ?_
                  obtain rfl := Option.some.inj h
                  exact i_rret rfl rfl
                · replace h := (if_neg c14).symm.trans h
                  refine i_rbF (c := q13.1 = (0 : Int32)) (t := 106) (n := 109) rfl c14 ?_
                  refine i_rs 7 (cf' := (120, [some (.ref 0), some (.int l1), some (.int l2), some (.int l3), some (.int l4), some (.int l5), some (.int (q3.2.1 42 (Int32.toNatClampNeg l1))), some (.int (q3.2.1 42 (Int32.toNatClampNeg l3)))], [.int l5, .int l4, .int l3, .int l2, .int l1, .ref 41], i_S X q13.2)) rfl ?_
                  obtain ⟨q15, hq15, h⟩ := i_bdE h
                  refine i_rcall (k := 166) (as := [.ref 41, .int l1, .int l2, .int l3, .int l4, .int l5]) (cf1 := (123, [some (.ref 0), some (.int l1), some (.int l2), some (.int l3), some (.int l4), some (.int l5), some (.int (q3.2.1 42 (Int32.toNatClampNeg l1))), some (.int (q3.2.1 42 (Int32.toNatClampNeg l3)))], [], i_S X q13.2)) (cf' := (123, [some (.ref 0), some (.int l1), some (.int l2), some (.int l3), some (.int l4), some (.int l5), some (.int (q3.2.1 42 (Int32.toNatClampNeg l1))), some (.int (q3.2.1 42 (Int32.toNatClampNeg l3)))], [], i_S X q15)) rfl (ok_b_Shelves_move (by omega) hq15) rfl ?_
                  refine i_rs 1 (cf' := (125, [some (.ref 0), some (.int l1), some (.int l2), some (.int l3), some (.int l4), some (.int l5), some (.int (q3.2.1 42 (Int32.toNatClampNeg l1))), some (.int (q3.2.1 42 (Int32.toNatClampNeg l3)))], [.int l5], i_S X q15)) rfl ?_
                  obtain rfl := Option.some.inj h
                  exact i_rret rfl rfl
            · replace h := (if_neg c10).symm.trans h
              refine i_rbF (c := (q3.2.1 42 (Int32.toNatClampNeg l1)) = (q3.2.1 42 (Int32.toNatClampNeg l3))) (t := 77) (n := 74) rfl c10 ?_
              refine i_rs 1 (cf' := (76, [some (.ref 0), some (.int l1), some (.int l2), some (.int l3), some (.int l4), some (.int l5), some (.int (q3.2.1 42 (Int32.toNatClampNeg l1))), some (.int (q3.2.1 42 (Int32.toNatClampNeg l3)))], [.int (-12 : Int32)], i_S X q3.2)) rfl ?_
              obtain rfl := Option.some.inj h
              exact i_rret rfl rfl
def r_shift_L150 (l3 : Int32) (l4 : Int32) (l5 : Int32) : Nat → Int32 → I_M → Option (Int32 × I_M)
  | 0, _, _ => none
  | n + 1, l6, M =>
    (if l6 < l5 then
        i_g l6 60 (i_g ((((60 : Int32) * l3) + l4) + l6) 360 ((r_shift_L150 l3 l4 l5 n) (l6 + (1 : Int32)) (i_wL M 72 (Int32.toNatClampNeg ((((60 : Int32) * l3) + l4) + l6)) (M.2 73 (Int32.toNatClampNeg l6)))))
      else
        some (l5, M))
theorem ok_r_shift_L150 {X : Nat × (Nat → Int32)} {d : Nat} {l3 : Int32} {l4 : Int32} {l5 : Int32} (hd : 3 ≤ d + 1) : ∀ (n : Nat) (l6 : Int32) (M : I_M) (r : (Int32 × I_M)), r_shift_L150 l3 l4 l5 n l6 M = some r → I_RnE (I_Ex d) i_c261 (150, [some (.ref 50), none, none, some (.int l3), some (.int l4), some (.int l5), some (.int l6)], [], i_S X M) (some (.int r.1)) (i_S X r.2) := by
  intro n
  induction n with
  | zero => intro _ M r h; cases h
  | succ n hself =>
    intro l6 M r h
    rw [r_shift_L150] at h
    refine i_rs 2 (cf' := (154, [some (.ref 50), none, none, some (.int l3), some (.int l4), some (.int l5), some (.int l6)], [.int l5, .int l6], i_S X M)) rfl ?_
    by_cases c1 : l6 < l5
    · replace h := (if_pos c1).symm.trans h
      refine i_rbT (c := l6 < l5) (t := 157) (n := 185) rfl c1 ?_
      refine i_rs 12 (cf' := (177, [some (.ref 50), none, none, some (.int l3), some (.int l4), some (.int l5), some (.int l6)], [.int l6, .ref 73, .int ((((60 : Int32) * l3) + l4) + l6), .ref 72], i_S X M)) rfl ?_
      obtain ⟨g2, h⟩ := i_gE h
      refine i_rlald (n := 60) (cf' := (178, [some (.ref 50), none, none, some (.int l3), some (.int l4), some (.int l5), some (.int l6)], [.long (M.2 73 (Int32.toNatClampNeg l6)), .int ((((60 : Int32) * l3) + l4) + l6), .ref 72], i_S X M)) rfl rfl g2 rfl ?_
      obtain ⟨g3, h⟩ := i_gE h
      refine i_rlast (n := 360) (cf' := (179, [some (.ref 50), none, none, some (.int l3), some (.int l4), some (.int l5), some (.int l6)], [], i_S X (i_wL M 72 (Int32.toNatClampNeg ((((60 : Int32) * l3) + l4) + l6)) (M.2 73 (Int32.toNatClampNeg l6))))) rfl rfl g3 rfl ?_
      refine i_rs 2 (cf' := (150, [some (.ref 50), none, none, some (.int l3), some (.int l4), some (.int l5), some (.int (l6 + (1 : Int32)))], [], i_S X (i_wL M 72 (Int32.toNatClampNeg ((((60 : Int32) * l3) + l4) + l6)) (M.2 73 (Int32.toNatClampNeg l6))))) rfl ?_
      refine i_fg (lv' := [some (.ref 50), none, none, some (.int l3), some (.int l4), some (.int l5), some (.int (l6 + (1 : Int32)))]) (And.intro rfl (And.intro rfl (And.intro rfl (And.intro rfl (And.intro rfl True.intro))))) ?_
      exact hself (l6 + (1 : Int32)) (i_wL M 72 (Int32.toNatClampNeg ((((60 : Int32) * l3) + l4) + l6)) (M.2 73 (Int32.toNatClampNeg l6))) _ h
    · replace h := (if_neg c1).symm.trans h
      refine i_rbF (c := l6 < l5) (t := 157) (n := 185) rfl c1 ?_
      refine i_rs 1 (cf' := (187, [some (.ref 50), none, none, some (.int l3), some (.int l4), some (.int l5), some (.int l6)], [.int l5], i_S X M)) rfl ?_
      obtain rfl := Option.some.inj h
      exact i_rret rfl rfl
def r_shift_L113 (l1 : Int32) (l2 : Int32) (l3 : Int32) (l4 : Int32) (l5 : Int32) (k147 : I_M → Option (Int32 × I_M)) : Nat → Int32 → I_M → Option (Int32 × I_M)
  | 0, _, _ => none
  | n + 1, l6, M =>
    (if l6 < l5 then
        i_g ((((60 : Int32) * l1) + l2) + l6) 360 (i_g l6 60 ((r_shift_L113 l1 l2 l3 l4 l5 k147 n) (l6 + (1 : Int32)) (i_wL M 73 (Int32.toNatClampNeg l6) (M.2 72 (Int32.toNatClampNeg ((((60 : Int32) * l1) + l2) + l6))))))
      else
        k147  M)
theorem ok_r_shift_L113 {X : Nat × (Nat → Int32)} {d : Nat} {l1 : Int32} {l2 : Int32} {l3 : Int32} {l4 : Int32} {l5 : Int32} {k147 : I_M → Option (Int32 × I_M)} (hd : 3 ≤ d + 1) (hk147 : ∀ (M : I_M) (r : (Int32 × I_M)), k147 M = some r → I_RnE (I_Ex d) i_c261 (147, [some (.ref 50), none, none, some (.int l3), some (.int l4), some (.int l5), none], [], i_S X M) (some (.int r.1)) (i_S X r.2)) : ∀ (n : Nat) (l6 : Int32) (M : I_M) (r : (Int32 × I_M)), r_shift_L113 l1 l2 l3 l4 l5 k147 n l6 M = some r → I_RnE (I_Ex d) i_c261 (113, [some (.ref 50), some (.int l1), some (.int l2), some (.int l3), some (.int l4), some (.int l5), some (.int l6)], [], i_S X M) (some (.int r.1)) (i_S X r.2) := by
  intro n
  induction n with
  | zero => intro _ M r h; cases h
  | succ n hself =>
    intro l6 M r h
    rw [r_shift_L113] at h
    refine i_rs 2 (cf' := (117, [some (.ref 50), some (.int l1), some (.int l2), some (.int l3), some (.int l4), some (.int l5), some (.int l6)], [.int l5, .int l6], i_S X M)) rfl ?_
    by_cases c4 : l6 < l5
    · replace h := (if_pos c4).symm.trans h
      refine i_rbT (c := l6 < l5) (t := 120) (n := 147) rfl c4 ?_
      refine i_rs 12 (cf' := (139, [some (.ref 50), some (.int l1), some (.int l2), some (.int l3), some (.int l4), some (.int l5), some (.int l6)], [.int ((((60 : Int32) * l1) + l2) + l6), .ref 72, .int l6, .ref 73], i_S X M)) rfl ?_
      obtain ⟨g5, h⟩ := i_gE h
      refine i_rlald (n := 360) (cf' := (140, [some (.ref 50), some (.int l1), some (.int l2), some (.int l3), some (.int l4), some (.int l5), some (.int l6)], [.long (M.2 72 (Int32.toNatClampNeg ((((60 : Int32) * l1) + l2) + l6))), .int l6, .ref 73], i_S X M)) rfl rfl g5 rfl ?_
      obtain ⟨g6, h⟩ := i_gE h
      refine i_rlast (n := 60) (cf' := (141, [some (.ref 50), some (.int l1), some (.int l2), some (.int l3), some (.int l4), some (.int l5), some (.int l6)], [], i_S X (i_wL M 73 (Int32.toNatClampNeg l6) (M.2 72 (Int32.toNatClampNeg ((((60 : Int32) * l1) + l2) + l6)))))) rfl rfl g6 rfl ?_
      refine i_rs 2 (cf' := (113, [some (.ref 50), some (.int l1), some (.int l2), some (.int l3), some (.int l4), some (.int l5), some (.int (l6 + (1 : Int32)))], [], i_S X (i_wL M 73 (Int32.toNatClampNeg l6) (M.2 72 (Int32.toNatClampNeg ((((60 : Int32) * l1) + l2) + l6)))))) rfl ?_
      refine i_fg (lv' := [some (.ref 50), some (.int l1), some (.int l2), some (.int l3), some (.int l4), some (.int l5), some (.int (l6 + (1 : Int32)))]) (And.intro rfl (And.intro rfl (And.intro rfl (And.intro rfl (And.intro rfl (And.intro rfl (And.intro rfl True.intro))))))) ?_
      exact hself (l6 + (1 : Int32)) (i_wL M 73 (Int32.toNatClampNeg l6) (M.2 72 (Int32.toNatClampNeg ((((60 : Int32) * l1) + l2) + l6)))) _ h
    · replace h := (if_neg c4).symm.trans h
      refine i_rbF (c := l6 < l5) (t := 120) (n := 147) rfl c4 ?_
      refine i_fg (lv' := [some (.ref 50), none, none, some (.int l3), some (.int l4), some (.int l5), none]) (And.intro rfl (And.intro rfl (And.intro rfl (And.intro rfl True.intro)))) ?_
      exact hk147  M _ h
def r_shift (l1 : Int32) (l2 : Int32) (l3 : Int32) (l4 : Int32) (l5 : Int32) (M : I_M) : Option (Int32 × I_M) :=
  Option.bind (r_isShelf l1 M) (fun q7 => (if q7.1 = (0 : Int32) then
      some ((-1 : Int32), q7.2)
    else
      Option.bind (r_isShelf l3 q7.2) (fun q9 => (if q9.1 = (0 : Int32) then
        some ((-1 : Int32), q9.2)
      else
        i_g l1 6 ((if (q9.2.1 70 (Int32.toNatClampNeg l1)) < (0 : Int32) then
          some ((-11 : Int32), q9.2)
        else
          i_g l3 6 ((if (q9.2.1 70 (Int32.toNatClampNeg l3)) < (0 : Int32) then
            some ((-11 : Int32), q9.2)
          else
            (if (q9.2.1 70 (Int32.toNatClampNeg l1)) < (50 : Int32) then
              some ((-12 : Int32), q9.2)
            else
              (if (q9.2.1 70 (Int32.toNatClampNeg l1)) = (q9.2.1 70 (Int32.toNatClampNeg l3)) then
                (if l5 < (0 : Int32) then
                  some ((-13 : Int32), q9.2)
                else
                  (if l2 < (0 : Int32) then
                    some ((-13 : Int32), q9.2)
                  else
                    (if l4 < (0 : Int32) then
                      some ((-13 : Int32), q9.2)
                    else
                      (if ((q9.2.1 71 (Int32.toNatClampNeg l1)) - l5) < l2 then
                        some ((-13 : Int32), q9.2)
                      else
                        (if ((q9.2.1 71 (Int32.toNatClampNeg l3)) - l5) < l4 then
                          some ((-13 : Int32), q9.2)
                        else
                          r_shift_L113 l1 l2 l3 l4 l5 (fun M22 =>
                              r_shift_L150 l3 l4 l5 i_F (0 : Int32) M22) i_F (0 : Int32) q9.2)))))
              else
                some ((-12 : Int32), q9.2)))))))))))
theorem ok_r_shift {X : Nat × (Nat → Int32)} {d : Nat} {l1 : Int32} {l2 : Int32} {l3 : Int32} {l4 : Int32} {l5 : Int32} {M : I_M} {r : (Int32 × I_M)} (hd : 3 ≤ d) (h : r_shift l1 l2 l3 l4 l5 M = some r) : I_Ex d 261 [.ref 50, .int l1, .int l2, .int l3, .int l4, .int l5] (i_S X M) (some (.int r.1)) (i_S X r.2) := by
  obtain ⟨d, rfl⟩ : ∃ d1, d = d1 + 1 := ⟨d - 1, by omega⟩
  unfold r_shift at h
  refine i_ex (e := i_r261) (lv := [some (.ref 50), some (.int l1), some (.int l2), some (.int l3), some (.int l4), some (.int l5), none]) rfl (Nat.le_of_ble_eq_true rfl) rfl ?_
  show I_RnE (I_Ex d) i_c261 (0, [some (.ref 50), some (.int l1), some (.int l2), some (.int l3), some (.int l4), some (.int l5), none], [], i_S X M) _ _
  refine i_rs 1 (cf' := (1, [some (.ref 50), some (.int l1), some (.int l2), some (.int l3), some (.int l4), some (.int l5), none], [.int l1], i_S X M)) rfl ?_
  obtain ⟨q7, hq7, h⟩ := i_bdE h
  refine i_rcall (k := 181) (as := [.int l1]) (cf1 := (4, [some (.ref 50), some (.int l1), some (.int l2), some (.int l3), some (.int l4), some (.int l5), none], [], i_S X M)) (cf' := (4, [some (.ref 50), some (.int l1), some (.int l2), some (.int l3), some (.int l4), some (.int l5), none], [.int q7.1], i_S X q7.2)) rfl (ok_r_isShelf (by omega) hq7) rfl ?_
  by_cases c8 : q7.1 = (0 : Int32)
  · replace h := (if_pos c8).symm.trans h
    refine i_rbT (c := q7.1 = (0 : Int32)) (t := 14) (n := 7) rfl c8 ?_
    refine i_rs 1 (cf' := (15, [some (.ref 50), some (.int l1), some (.int l2), some (.int l3), some (.int l4), some (.int l5), none], [.int (-1 : Int32)], i_S X q7.2)) rfl ?_
    obtain rfl := Option.some.inj h
    exact i_rret rfl rfl
  · replace h := (if_neg c8).symm.trans h
    refine i_rbF (c := q7.1 = (0 : Int32)) (t := 14) (n := 7) rfl c8 ?_
    refine i_rs 1 (cf' := (8, [some (.ref 50), some (.int l1), some (.int l2), some (.int l3), some (.int l4), some (.int l5), none], [.int l3], i_S X q7.2)) rfl ?_
    obtain ⟨q9, hq9, h⟩ := i_bdE h
    refine i_rcall (k := 181) (as := [.int l3]) (cf1 := (11, [some (.ref 50), some (.int l1), some (.int l2), some (.int l3), some (.int l4), some (.int l5), none], [], i_S X q7.2)) (cf' := (11, [some (.ref 50), some (.int l1), some (.int l2), some (.int l3), some (.int l4), some (.int l5), none], [.int q9.1], i_S X q9.2)) rfl (ok_r_isShelf (by omega) hq9) rfl ?_
    by_cases c10 : q9.1 = (0 : Int32)
    · replace h := (if_pos c10).symm.trans h
      refine i_rbT (c := q9.1 = (0 : Int32)) (t := 14) (n := 16) rfl c10 ?_
      refine i_rs 1 (cf' := (15, [some (.ref 50), some (.int l1), some (.int l2), some (.int l3), some (.int l4), some (.int l5), none], [.int (-1 : Int32)], i_S X q9.2)) rfl ?_
      obtain rfl := Option.some.inj h
      exact i_rret rfl rfl
    · replace h := (if_neg c10).symm.trans h
      refine i_rbF (c := q9.1 = (0 : Int32)) (t := 14) (n := 16) rfl c10 ?_
      refine i_rs 3 (cf' := (21, [some (.ref 50), some (.int l1), some (.int l2), some (.int l3), some (.int l4), some (.int l5), none], [.int l1, .ref 70], i_S X q9.2)) rfl ?_
      obtain ⟨g11, h⟩ := i_gE h
      refine i_riald (n := 6) (cf' := (22, [some (.ref 50), some (.int l1), some (.int l2), some (.int l3), some (.int l4), some (.int l5), none], [.int (q9.2.1 70 (Int32.toNatClampNeg l1))], i_S X q9.2)) rfl rfl (by decide) g11 rfl ?_
      by_cases c12 : (q9.2.1 70 (Int32.toNatClampNeg l1)) < (0 : Int32)
      · replace h := (if_pos c12).symm.trans h
        refine i_rbT (c := (q9.2.1 70 (Int32.toNatClampNeg l1)) < (0 : Int32)) (t := 34) (n := 25) rfl c12 ?_
        refine i_rs 1 (cf' := (36, [some (.ref 50), some (.int l1), some (.int l2), some (.int l3), some (.int l4), some (.int l5), none], [.int (-11 : Int32)], i_S X q9.2)) rfl ?_
        obtain rfl := Option.some.inj h
        exact i_rret rfl rfl
      · replace h := (if_neg c12).symm.trans h
        refine i_rbF (c := (q9.2.1 70 (Int32.toNatClampNeg l1)) < (0 : Int32)) (t := 34) (n := 25) rfl c12 ?_
        refine i_rs 3 (cf' := (30, [some (.ref 50), some (.int l1), some (.int l2), some (.int l3), some (.int l4), some (.int l5), none], [.int l3, .ref 70], i_S X q9.2)) rfl ?_
        obtain ⟨g13, h⟩ := i_gE h
        refine i_riald (n := 6) (cf' := (31, [some (.ref 50), some (.int l1), some (.int l2), some (.int l3), some (.int l4), some (.int l5), none], [.int (q9.2.1 70 (Int32.toNatClampNeg l3))], i_S X q9.2)) rfl rfl (by decide) g13 rfl ?_
        by_cases c14 : (q9.2.1 70 (Int32.toNatClampNeg l3)) < (0 : Int32)
        · replace h := (if_pos c14).symm.trans h
          refine i_rbT (c := (q9.2.1 70 (Int32.toNatClampNeg l3)) < (0 : Int32)) (t := 34) (n := 37) rfl c14 ?_
          refine i_rs 1 (cf' := (36, [some (.ref 50), some (.int l1), some (.int l2), some (.int l3), some (.int l4), some (.int l5), none], [.int (-11 : Int32)], i_S X q9.2)) rfl ?_
          obtain rfl := Option.some.inj h
          exact i_rret rfl rfl
        · replace h := (if_neg c14).symm.trans h
          refine i_rbF (c := (q9.2.1 70 (Int32.toNatClampNeg l3)) < (0 : Int32)) (t := 34) (n := 37) rfl c14 ?_
          refine i_rs 3 (cf' := (42, [some (.ref 50), some (.int l1), some (.int l2), some (.int l3), some (.int l4), some (.int l5), none], [.int l1, .ref 70], i_S X q9.2)) rfl ?_
          refine i_riald (n := 6) (cf' := (43, [some (.ref 50), some (.int l1), some (.int l2), some (.int l3), some (.int l4), some (.int l5), none], [.int (q9.2.1 70 (Int32.toNatClampNeg l1))], i_S X q9.2)) rfl rfl (by decide) g11 rfl ?_
          refine i_rs 1 (cf' := (45, [some (.ref 50), some (.int l1), some (.int l2), some (.int l3), some (.int l4), some (.int l5), none], [.int (50 : Int32), .int (q9.2.1 70 (Int32.toNatClampNeg l1))], i_S X q9.2)) rfl ?_
          by_cases c15 : (q9.2.1 70 (Int32.toNatClampNeg l1)) < (50 : Int32)
          · replace h := (if_pos c15).symm.trans h
            refine i_rbT (c := (q9.2.1 70 (Int32.toNatClampNeg l1)) < (50 : Int32)) (t := 63) (n := 48) rfl c15 ?_
            refine i_rs 1 (cf' := (65, [some (.ref 50), some (.int l1), some (.int l2), some (.int l3), some (.int l4), some (.int l5), none], [.int (-12 : Int32)], i_S X q9.2)) rfl ?_
            obtain rfl := Option.some.inj h
            exact i_rret rfl rfl
          · replace h := (if_neg c15).symm.trans h
            refine i_rbF (c := (q9.2.1 70 (Int32.toNatClampNeg l1)) < (50 : Int32)) (t := 63) (n := 48) rfl c15 ?_
            refine i_rs 3 (cf' := (53, [some (.ref 50), some (.int l1), some (.int l2), some (.int l3), some (.int l4), some (.int l5), none], [.int l1, .ref 70], i_S X q9.2)) rfl ?_
            refine i_riald (n := 6) (cf' := (54, [some (.ref 50), some (.int l1), some (.int l2), some (.int l3), some (.int l4), some (.int l5), none], [.int (q9.2.1 70 (Int32.toNatClampNeg l1))], i_S X q9.2)) rfl rfl (by decide) g11 rfl ?_
            refine i_rs 3 (cf' := (59, [some (.ref 50), some (.int l1), some (.int l2), some (.int l3), some (.int l4), some (.int l5), none], [.int l3, .ref 70, .int (q9.2.1 70 (Int32.toNatClampNeg l1))], i_S X q9.2)) rfl ?_
            refine i_riald (n := 6) (cf' := (60, [some (.ref 50), some (.int l1), some (.int l2), some (.int l3), some (.int l4), some (.int l5), none], [.int (q9.2.1 70 (Int32.toNatClampNeg l3)), .int (q9.2.1 70 (Int32.toNatClampNeg l1))], i_S X q9.2)) rfl rfl (by decide) g13 rfl ?_
            by_cases c16 : (q9.2.1 70 (Int32.toNatClampNeg l1)) = (q9.2.1 70 (Int32.toNatClampNeg l3))
            · replace h := (if_pos c16).symm.trans h
              refine i_rbT (c := (q9.2.1 70 (Int32.toNatClampNeg l1)) = (q9.2.1 70 (Int32.toNatClampNeg l3))) (t := 66) (n := 63) rfl c16 ?_
              refine i_rs 1 (cf' := (68, [some (.ref 50), some (.int l1), some (.int l2), some (.int l3), some (.int l4), some (.int l5), none], [.int l5], i_S X q9.2)) rfl ?_
              by_cases c17 : l5 < (0 : Int32)
              · replace h := (if_pos c17).symm.trans h
                refine i_rbT (c := l5 < (0 : Int32)) (t := 107) (n := 71) rfl c17 ?_
                refine i_rs 1 (cf' := (109, [some (.ref 50), some (.int l1), some (.int l2), some (.int l3), some (.int l4), some (.int l5), none], [.int (-13 : Int32)], i_S X q9.2)) rfl ?_
                obtain rfl := Option.some.inj h
                exact i_rret rfl rfl
              · replace h := (if_neg c17).symm.trans h
                refine i_rbF (c := l5 < (0 : Int32)) (t := 107) (n := 71) rfl c17 ?_
                refine i_rs 1 (cf' := (72, [some (.ref 50), some (.int l1), some (.int l2), some (.int l3), some (.int l4), some (.int l5), none], [.int l2], i_S X q9.2)) rfl ?_
                by_cases c18 : l2 < (0 : Int32)
                · replace h := (if_pos c18).symm.trans h
                  refine i_rbT (c := l2 < (0 : Int32)) (t := 107) (n := 75) rfl c18 ?_
                  refine i_rs 1 (cf' := (109, [some (.ref 50), some (.int l1), some (.int l2), some (.int l3), some (.int l4), some (.int l5), none], [.int (-13 : Int32)], i_S X q9.2)) rfl ?_
                  obtain rfl := Option.some.inj h
                  exact i_rret rfl rfl
                · replace h := (if_neg c18).symm.trans h
                  refine i_rbF (c := l2 < (0 : Int32)) (t := 107) (n := 75) rfl c18 ?_
                  refine i_rs 1 (cf' := (77, [some (.ref 50), some (.int l1), some (.int l2), some (.int l3), some (.int l4), some (.int l5), none], [.int l4], i_S X q9.2)) rfl ?_
                  by_cases c19 : l4 < (0 : Int32)
                  · replace h := (if_pos c19).symm.trans h
                    refine i_rbT (c := l4 < (0 : Int32)) (t := 107) (n := 80) rfl c19 ?_
                    refine i_rs 1 (cf' := (109, [some (.ref 50), some (.int l1), some (.int l2), some (.int l3), some (.int l4), some (.int l5), none], [.int (-13 : Int32)], i_S X q9.2)) rfl ?_
                    obtain rfl := Option.some.inj h
                    exact i_rret rfl rfl
                  · replace h := (if_neg c19).symm.trans h
                    refine i_rbF (c := l4 < (0 : Int32)) (t := 107) (n := 80) rfl c19 ?_
                    refine i_rs 4 (cf' := (86, [some (.ref 50), some (.int l1), some (.int l2), some (.int l3), some (.int l4), some (.int l5), none], [.int l1, .ref 71, .int l2], i_S X q9.2)) rfl ?_
                    refine i_riald (n := 6) (cf' := (87, [some (.ref 50), some (.int l1), some (.int l2), some (.int l3), some (.int l4), some (.int l5), none], [.int (q9.2.1 71 (Int32.toNatClampNeg l1)), .int l2], i_S X q9.2)) rfl rfl (by decide) g11 rfl ?_
                    refine i_rs 2 (cf' := (90, [some (.ref 50), some (.int l1), some (.int l2), some (.int l3), some (.int l4), some (.int l5), none], [.int ((q9.2.1 71 (Int32.toNatClampNeg l1)) - l5), .int l2], i_S X q9.2)) rfl ?_
                    by_cases c20 : ((q9.2.1 71 (Int32.toNatClampNeg l1)) - l5) < l2
                    · replace h := (if_pos c20).symm.trans h
                      refine i_rbT (c := ((q9.2.1 71 (Int32.toNatClampNeg l1)) - l5) < l2) (t := 107) (n := 93) rfl c20 ?_
                      refine i_rs 1 (cf' := (109, [some (.ref 50), some (.int l1), some (.int l2), some (.int l3), some (.int l4), some (.int l5), none], [.int (-13 : Int32)], i_S X q9.2)) rfl ?_
                      obtain rfl := Option.some.inj h
                      exact i_rret rfl rfl
                    · replace h := (if_neg c20).symm.trans h
                      refine i_rbF (c := ((q9.2.1 71 (Int32.toNatClampNeg l1)) - l5) < l2) (t := 107) (n := 93) rfl c20 ?_
                      refine i_rs 4 (cf' := (100, [some (.ref 50), some (.int l1), some (.int l2), some (.int l3), some (.int l4), some (.int l5), none], [.int l3, .ref 71, .int l4], i_S X q9.2)) rfl ?_
                      refine i_riald (n := 6) (cf' := (101, [some (.ref 50), some (.int l1), some (.int l2), some (.int l3), some (.int l4), some (.int l5), none], [.int (q9.2.1 71 (Int32.toNatClampNeg l3)), .int l4], i_S X q9.2)) rfl rfl (by decide) g13 rfl ?_
                      refine i_rs 2 (cf' := (104, [some (.ref 50), some (.int l1), some (.int l2), some (.int l3), some (.int l4), some (.int l5), none], [.int ((q9.2.1 71 (Int32.toNatClampNeg l3)) - l5), .int l4], i_S X q9.2)) rfl ?_
                      by_cases c21 : ((q9.2.1 71 (Int32.toNatClampNeg l3)) - l5) < l4
                      · replace h := (if_pos c21).symm.trans h
                        refine i_rbT (c := ((q9.2.1 71 (Int32.toNatClampNeg l3)) - l5) < l4) (t := 107) (n := 110) rfl c21 ?_
                        refine i_rs 1 (cf' := (109, [some (.ref 50), some (.int l1), some (.int l2), some (.int l3), some (.int l4), some (.int l5), none], [.int (-13 : Int32)], i_S X q9.2)) rfl ?_
                        obtain rfl := Option.some.inj h
                        exact i_rret rfl rfl
                      · replace h := (if_neg c21).symm.trans h
                        refine i_rbF (c := ((q9.2.1 71 (Int32.toNatClampNeg l3)) - l5) < l4) (t := 107) (n := 110) rfl c21 ?_
                        refine i_rs 2 (cf' := (113, [some (.ref 50), some (.int l1), some (.int l2), some (.int l3), some (.int l4), some (.int l5), some (.int (0 : Int32))], [], i_S X q9.2)) rfl ?_
                        refine i_fg (lv' := [some (.ref 50), some (.int l1), some (.int l2), some (.int l3), some (.int l4), some (.int l5), some (.int (0 : Int32))]) (And.intro rfl (And.intro rfl (And.intro rfl (And.intro rfl (And.intro rfl (And.intro rfl (And.intro rfl True.intro))))))) ?_
                        refine ok_r_shift_L113 (by omega) (fun M22 r h => ?_) i_F (0 : Int32) q9.2 _ h
                        refine i_rs 2 (cf' := (150, [some (.ref 50), none, none, some (.int l3), some (.int l4), some (.int l5), some (.int (0 : Int32))], [], i_S X M22)) rfl ?_
                        refine i_fg (lv' := [some (.ref 50), none, none, some (.int l3), some (.int l4), some (.int l5), some (.int (0 : Int32))]) (And.intro rfl (And.intro rfl (And.intro rfl (And.intro rfl (And.intro rfl True.intro))))) ?_
                        refine ok_r_shift_L150 (by omega) i_F (0 : Int32) M22 _ h
            · replace h := (if_neg c16).symm.trans h
              refine i_rbF (c := (q9.2.1 70 (Int32.toNatClampNeg l1)) = (q9.2.1 70 (Int32.toNatClampNeg l3))) (t := 66) (n := 63) rfl c16 ?_
              refine i_rs 1 (cf' := (65, [some (.ref 50), some (.int l1), some (.int l2), some (.int l3), some (.int l4), some (.int l5), none], [.int (-12 : Int32)], i_S X q9.2)) rfl ?_
              obtain rfl := Option.some.inj h
              exact i_rret rfl rfl
def b_Bodies_isUnder_L4 (l1 : Int32) : Nat → Int32 → Int32 → I_M → Option (Int32 × I_M)
  | 0, _, _, _ => none
  | n + 1, l2, l3, M =>
    (if l3 < (8 : Int32) then
        Option.bind (b_Bodies_isKind l2 M) (fun q2 => (if q2.1 = (0 : Int32) then
          some ((0 : Int32), q2.2)
        else
          (if l2 = l1 then
            some ((1 : Int32), q2.2)
          else
            i_g l2 8 ((b_Bodies_isUnder_L4 l1 n) (i_x103 (Int32.toNatClampNeg l2)) (l3 + (1 : Int32)) q2.2))))
      else
        some ((0 : Int32), M))
theorem ok_b_Bodies_isUnder_L4 {X : Nat × (Nat → Int32)} {d : Nat} {l1 : Int32} (hd : 2 ≤ d + 1) : ∀ (n : Nat) (l2 : Int32) (l3 : Int32) (M : I_M) (r : (Int32 × I_M)), b_Bodies_isUnder_L4 l1 n l2 l3 M = some r → I_RnE (I_Ex d) i_c168 (4, [none, some (.int l1), some (.int l2), some (.int l3)], [], i_S X M) (some (.int r.1)) (i_S X r.2) := by
  intro n
  induction n with
  | zero => intro _ _ M r h; cases h
  | succ n hself =>
    intro l2 l3 M r h
    rw [b_Bodies_isUnder_L4] at h
    refine i_rs 2 (cf' := (7, [none, some (.int l1), some (.int l2), some (.int l3)], [.int (8 : Int32), .int l3], i_S X M)) rfl ?_
    by_cases c1 : l3 < (8 : Int32)
    · replace h := (if_pos c1).symm.trans h
      refine i_rbT (c := l3 < (8 : Int32)) (t := 10) (n := 36) rfl c1 ?_
      refine i_rs 1 (cf' := (11, [none, some (.int l1), some (.int l2), some (.int l3)], [.int l2], i_S X M)) rfl ?_
      obtain ⟨q2, hq2, h⟩ := i_bdE h
      refine i_rcall (k := 141) (as := [.int l2]) (cf1 := (14, [none, some (.int l1), some (.int l2), some (.int l3)], [], i_S X M)) (cf' := (14, [none, some (.int l1), some (.int l2), some (.int l3)], [.int q2.1], i_S X q2.2)) rfl (ok_b_Bodies_isKind (by omega) hq2) rfl ?_
      by_cases c3 : q2.1 = (0 : Int32)
      · replace h := (if_pos c3).symm.trans h
        refine i_rbT (c := q2.1 = (0 : Int32)) (t := 36) (n := 17) rfl c3 ?_
        refine i_rs 1 (cf' := (37, [none, some (.int l1), some (.int l2), some (.int l3)], [.int (0 : Int32)], i_S X q2.2)) rfl ?_
        obtain rfl := Option.some.inj h
        exact i_rretZ rfl (Or.inl rfl) rfl
      · replace h := (if_neg c3).symm.trans h
        refine i_rbF (c := q2.1 = (0 : Int32)) (t := 36) (n := 17) rfl c3 ?_
        refine i_rs 2 (cf' := (19, [none, some (.int l1), some (.int l2), some (.int l3)], [.int l1, .int l2], i_S X q2.2)) rfl ?_
        by_cases c4 : l2 = l1
        · replace h := (if_pos c4).symm.trans h
          refine i_rbT (c := l2 = l1) (t := 22) (n := 24) rfl c4 ?_
          refine i_rs 1 (cf' := (23, [none, some (.int l1), some (.int l2), some (.int l3)], [.int (1 : Int32)], i_S X q2.2)) rfl ?_
          obtain rfl := Option.some.inj h
          exact i_rretZ rfl (Or.inr rfl) rfl
        · replace h := (if_neg c4).symm.trans h
          refine i_rbF (c := l2 = l1) (t := 22) (n := 24) rfl c4 ?_
          refine i_rs 2 (cf' := (28, [none, some (.int l1), some (.int l2), some (.int l3)], [.int l2, .ref 103], i_S X q2.2)) rfl ?_
          obtain ⟨g5, h⟩ := i_gE h
          refine i_riald (n := 8) (cf' := (29, [none, some (.int l1), some (.int l2), some (.int l3)], [.int (i_x103 (Int32.toNatClampNeg l2))], i_S X q2.2)) rfl rfl (by decide) g5 rfl ?_
          refine i_rs 3 (cf' := (4, [none, some (.int l1), some (.int (i_x103 (Int32.toNatClampNeg l2))), some (.int (l3 + (1 : Int32)))], [], i_S X q2.2)) rfl ?_
          refine i_fg (lv' := [none, some (.int l1), some (.int (i_x103 (Int32.toNatClampNeg l2))), some (.int (l3 + (1 : Int32)))]) (And.intro rfl (And.intro rfl (And.intro rfl True.intro))) ?_
          exact hself (i_x103 (Int32.toNatClampNeg l2)) (l3 + (1 : Int32)) q2.2 _ h
    · replace h := (if_neg c1).symm.trans h
      refine i_rbF (c := l3 < (8 : Int32)) (t := 10) (n := 36) rfl c1 ?_
      refine i_rs 1 (cf' := (37, [none, some (.int l1), some (.int l2), some (.int l3)], [.int (0 : Int32)], i_S X M)) rfl ?_
      obtain rfl := Option.some.inj h
      exact i_rretZ rfl (Or.inl rfl) rfl
def b_Bodies_isUnder (l0 : Int32) (l1 : Int32) (M : I_M) : Option (Int32 × I_M) :=
  b_Bodies_isUnder_L4 l1 i_F l0 (0 : Int32) M
theorem ok_b_Bodies_isUnder {X : Nat × (Nat → Int32)} {d : Nat} {l0 : Int32} {l1 : Int32} {M : I_M} {r : (Int32 × I_M)} (hd : 2 ≤ d) (h : b_Bodies_isUnder l0 l1 M = some r) : I_Ex d 168 [.int l0, .int l1] (i_S X M) (some (.int r.1)) (i_S X r.2) := by
  obtain ⟨d, rfl⟩ : ∃ d1, d = d1 + 1 := ⟨d - 1, by omega⟩
  unfold b_Bodies_isUnder at h
  refine i_ex (e := i_r168) (lv := [some (.int l0), some (.int l1), none, none]) rfl (Nat.le_of_ble_eq_true rfl) rfl ?_
  show I_RnE (I_Ex d) i_c168 (0, [some (.int l0), some (.int l1), none, none], [], i_S X M) _ _
  refine i_rs 4 (cf' := (4, [some (.int l0), some (.int l1), some (.int l0), some (.int (0 : Int32))], [], i_S X M)) rfl ?_
  refine i_fg (lv' := [none, some (.int l1), some (.int l0), some (.int (0 : Int32))]) (And.intro rfl (And.intro rfl (And.intro rfl True.intro))) ?_
  refine ok_b_Bodies_isUnder_L4 (by omega) i_F l0 (0 : Int32) M _ h
def b_taken (l1 : Int32) (l2 : Int32) (M : I_M) : Option (Int32 × I_M) :=
  Option.bind (b_Shelves_isShelf l1 M) (fun q1 => (if q1.1 = (0 : Int32) then
      some ((-1 : Int32), q1.2)
    else
      Option.bind (b_Bodies_isKind l2 q1.2) (fun q3 => (if q3.1 = (0 : Int32) then
        some ((-1 : Int32), q3.2)
      else
        i_g l1 6 ((if (q3.2.1 42 (Int32.toNatClampNeg l1)) = (-1 : Int32) then
          some ((-11 : Int32), q3.2)
        else
          (if (q3.2.1 42 (Int32.toNatClampNeg l1)) = (5 : Int32) then
            Option.bind (b_Bodies_has (q3.2.1 44 (Int32.toNatClampNeg l1)) q3.2) (fun q8 => (if q8.1 = (0 : Int32) then
              some ((-12 : Int32), q8.2)
            else
              i_g (q3.2.1 44 (Int32.toNatClampNeg l1)) 50 (i_let (q8.2.1 39 (Int32.toNatClampNeg (q3.2.1 44 (Int32.toNatClampNeg l1)))) (fun x11 => Option.bind (b_Bodies_isUnder x11 l2 q8.2) (fun q12 => (if q12.1 = (0 : Int32) then
                some ((-12 : Int32), q12.2)
              else
                some (x11, q12.2)))))))
          else
            some ((-12 : Int32), q3.2))))))))
theorem ok_b_taken {X : Nat × (Nat → Int32)} {d : Nat} {l1 : Int32} {l2 : Int32} {M : I_M} {r : (Int32 × I_M)} (hd : 3 ≤ d) (h : b_taken l1 l2 M = some r) : I_Ex d 167 [.ref 0, .int l1, .int l2] (i_S X M) (some (.int r.1)) (i_S X r.2) := by
  obtain ⟨d, rfl⟩ : ∃ d1, d = d1 + 1 := ⟨d - 1, by omega⟩
  unfold b_taken at h
  refine i_ex (e := i_r167) (lv := [some (.ref 0), some (.int l1), some (.int l2), none, none]) rfl (Nat.le_of_ble_eq_true rfl) rfl ?_
  show I_RnE (I_Ex d) i_c167 (0, [some (.ref 0), some (.int l1), some (.int l2), none, none], [], i_S X M) _ _
  refine i_rs 3 (cf' := (5, [some (.ref 0), some (.int l1), some (.int l2), none, none], [.int l1, .ref 41], i_S X M)) rfl ?_
  obtain ⟨q1, hq1, h⟩ := i_bdE h
  refine i_rcall (k := 24) (as := [.ref 41, .int l1]) (cf1 := (8, [some (.ref 0), some (.int l1), some (.int l2), none, none], [], i_S X M)) (cf' := (8, [some (.ref 0), some (.int l1), some (.int l2), none, none], [.int q1.1], i_S X q1.2)) rfl (ok_b_Shelves_isShelf (by omega) hq1) rfl ?_
  by_cases c2 : q1.1 = (0 : Int32)
  · replace h := (if_pos c2).symm.trans h
    refine i_rbT (c := q1.1 = (0 : Int32)) (t := 18) (n := 11) rfl c2 ?_
    refine i_rs 1 (cf' := (19, [some (.ref 0), some (.int l1), some (.int l2), none, none], [.int (-1 : Int32)], i_S X q1.2)) rfl ?_
    obtain rfl := Option.some.inj h
    exact i_rret rfl rfl
  · replace h := (if_neg c2).symm.trans h
    refine i_rbF (c := q1.1 = (0 : Int32)) (t := 18) (n := 11) rfl c2 ?_
    refine i_rs 1 (cf' := (12, [some (.ref 0), some (.int l1), some (.int l2), none, none], [.int l2], i_S X q1.2)) rfl ?_
    obtain ⟨q3, hq3, h⟩ := i_bdE h
    refine i_rcall (k := 141) (as := [.int l2]) (cf1 := (15, [some (.ref 0), some (.int l1), some (.int l2), none, none], [], i_S X q1.2)) (cf' := (15, [some (.ref 0), some (.int l1), some (.int l2), none, none], [.int q3.1], i_S X q3.2)) rfl (ok_b_Bodies_isKind (by omega) hq3) rfl ?_
    by_cases c4 : q3.1 = (0 : Int32)
    · replace h := (if_pos c4).symm.trans h
      refine i_rbT (c := q3.1 = (0 : Int32)) (t := 18) (n := 20) rfl c4 ?_
      refine i_rs 1 (cf' := (19, [some (.ref 0), some (.int l1), some (.int l2), none, none], [.int (-1 : Int32)], i_S X q3.2)) rfl ?_
      obtain rfl := Option.some.inj h
      exact i_rret rfl rfl
    · replace h := (if_neg c4).symm.trans h
      refine i_rbF (c := q3.1 = (0 : Int32)) (t := 18) (n := 20) rfl c4 ?_
      refine i_rs 4 (cf' := (28, [some (.ref 0), some (.int l1), some (.int l2), none, none], [.int l1, .ref 42], i_S X q3.2)) rfl ?_
      obtain ⟨g5, h⟩ := i_gE h
      refine i_riald (n := 6) (cf' := (29, [some (.ref 0), some (.int l1), some (.int l2), none, none], [.int (q3.2.1 42 (Int32.toNatClampNeg l1))], i_S X q3.2)) rfl rfl (by decide) g5 rfl ?_
      refine i_rs 1 (cf' := (30, [some (.ref 0), some (.int l1), some (.int l2), none, none], [.int (-1 : Int32), .int (q3.2.1 42 (Int32.toNatClampNeg l1))], i_S X q3.2)) rfl ?_
      by_cases c6 : (q3.2.1 42 (Int32.toNatClampNeg l1)) = (-1 : Int32)
      · replace h := (if_pos c6).symm.trans h
        refine i_rbT (c := (q3.2.1 42 (Int32.toNatClampNeg l1)) = (-1 : Int32)) (t := 33) (n := 36) rfl c6 ?_
        refine i_rs 1 (cf' := (35, [some (.ref 0), some (.int l1), some (.int l2), none, none], [.int (-11 : Int32)], i_S X q3.2)) rfl ?_
        obtain rfl := Option.some.inj h
        exact i_rret rfl rfl
      · replace h := (if_neg c6).symm.trans h
        refine i_rbF (c := (q3.2.1 42 (Int32.toNatClampNeg l1)) = (-1 : Int32)) (t := 33) (n := 36) rfl c6 ?_
        refine i_rs 4 (cf' := (44, [some (.ref 0), some (.int l1), some (.int l2), none, none], [.int l1, .ref 44], i_S X q3.2)) rfl ?_
        refine i_riald (n := 6) (cf' := (45, [some (.ref 0), some (.int l1), some (.int l2), none, none], [.int (q3.2.1 44 (Int32.toNatClampNeg l1))], i_S X q3.2)) rfl rfl (by decide) g5 rfl ?_
        refine i_rs 5 (cf' := (54, [some (.ref 0), some (.int l1), some (.int l2), some (.int (q3.2.1 44 (Int32.toNatClampNeg l1))), none], [.int l1, .ref 42], i_S X q3.2)) rfl ?_
        refine i_riald (n := 6) (cf' := (55, [some (.ref 0), some (.int l1), some (.int l2), some (.int (q3.2.1 44 (Int32.toNatClampNeg l1))), none], [.int (q3.2.1 42 (Int32.toNatClampNeg l1))], i_S X q3.2)) rfl rfl (by decide) g5 rfl ?_
        refine i_rs 1 (cf' := (56, [some (.ref 0), some (.int l1), some (.int l2), some (.int (q3.2.1 44 (Int32.toNatClampNeg l1))), none], [.int (5 : Int32), .int (q3.2.1 42 (Int32.toNatClampNeg l1))], i_S X q3.2)) rfl ?_
        by_cases c7 : (q3.2.1 42 (Int32.toNatClampNeg l1)) = (5 : Int32)
        · replace h := (if_pos c7).symm.trans h
          refine i_rbT (c := (q3.2.1 42 (Int32.toNatClampNeg l1)) = (5 : Int32)) (t := 59) (n := 70) rfl c7 ?_
          refine i_rs 3 (cf' := (64, [some (.ref 0), some (.int l1), some (.int l2), some (.int (q3.2.1 44 (Int32.toNatClampNeg l1))), none], [.int (q3.2.1 44 (Int32.toNatClampNeg l1)), .ref 38], i_S X q3.2)) rfl ?_
          obtain ⟨q8, hq8, h⟩ := i_bdE h
          refine i_rcall (k := 145) (as := [.ref 38, .int (q3.2.1 44 (Int32.toNatClampNeg l1))]) (cf1 := (67, [some (.ref 0), some (.int l1), some (.int l2), some (.int (q3.2.1 44 (Int32.toNatClampNeg l1))), none], [], i_S X q3.2)) (cf' := (67, [some (.ref 0), some (.int l1), some (.int l2), some (.int (q3.2.1 44 (Int32.toNatClampNeg l1))), none], [.int q8.1], i_S X q8.2)) rfl (ok_b_Bodies_has (by omega) hq8) rfl ?_
          by_cases c9 : q8.1 = (0 : Int32)
          · replace h := (if_pos c9).symm.trans h
            refine i_rbT (c := q8.1 = (0 : Int32)) (t := 70) (n := 73) rfl c9 ?_
            refine i_rs 1 (cf' := (72, [some (.ref 0), some (.int l1), some (.int l2), some (.int (q3.2.1 44 (Int32.toNatClampNeg l1))), none], [.int (-12 : Int32)], i_S X q8.2)) rfl ?_
            obtain rfl := Option.some.inj h
            exact i_rret rfl rfl
          · replace h := (if_neg c9).symm.trans h
            refine i_rbF (c := q8.1 = (0 : Int32)) (t := 70) (n := 73) rfl c9 ?_
            refine i_rs 4 (cf' := (81, [some (.ref 0), some (.int l1), some (.int l2), some (.int (q3.2.1 44 (Int32.toNatClampNeg l1))), none], [.int (q3.2.1 44 (Int32.toNatClampNeg l1)), .ref 39], i_S X q8.2)) rfl ?_
            obtain ⟨g10, h⟩ := i_gE h
            refine i_riald (n := 50) (cf' := (82, [some (.ref 0), some (.int l1), some (.int l2), some (.int (q3.2.1 44 (Int32.toNatClampNeg l1))), none], [.int (q8.2.1 39 (Int32.toNatClampNeg (q3.2.1 44 (Int32.toNatClampNeg l1))))], i_S X q8.2)) rfl rfl (by decide) g10 rfl ?_
            obtain ⟨x11, ex11, h⟩ := i_letE h
            refine i_cfe (cf' := (82, [some (.ref 0), some (.int l1), some (.int l2), some (.int (q3.2.1 44 (Int32.toNatClampNeg l1))), none], [.int x11], i_S X q8.2)) (by rw [ex11]) ?_
            refine i_rs 3 (cf' := (87, [some (.ref 0), some (.int l1), some (.int l2), some (.int (q3.2.1 44 (Int32.toNatClampNeg l1))), some (.int x11)], [.int l2, .int x11], i_S X q8.2)) rfl ?_
            obtain ⟨q12, hq12, h⟩ := i_bdE h
            refine i_rcall (k := 168) (as := [.int x11, .int l2]) (cf1 := (90, [some (.ref 0), some (.int l1), some (.int l2), some (.int (q3.2.1 44 (Int32.toNatClampNeg l1))), some (.int x11)], [], i_S X q8.2)) (cf' := (90, [some (.ref 0), some (.int l1), some (.int l2), some (.int (q3.2.1 44 (Int32.toNatClampNeg l1))), some (.int x11)], [.int q12.1], i_S X q12.2)) rfl (ok_b_Bodies_isUnder (by omega) hq12) rfl ?_
            by_cases c13 : q12.1 = (0 : Int32)
            · replace h := (if_pos c13).symm.trans h
              refine i_rbT (c := q12.1 = (0 : Int32)) (t := 98) (n := 93) rfl c13 ?_
              refine i_rs 1 (cf' := (100, [some (.ref 0), some (.int l1), some (.int l2), some (.int (q3.2.1 44 (Int32.toNatClampNeg l1))), some (.int x11)], [.int (-12 : Int32)], i_S X q12.2)) rfl ?_
              obtain rfl := Option.some.inj h
              exact i_rret rfl rfl
            · replace h := (if_neg c13).symm.trans h
              refine i_rbF (c := q12.1 = (0 : Int32)) (t := 98) (n := 93) rfl c13 ?_
              refine i_rs 2 (cf' := (100, [some (.ref 0), some (.int l1), some (.int l2), some (.int (q3.2.1 44 (Int32.toNatClampNeg l1))), some (.int x11)], [.int x11], i_S X q12.2)) rfl ?_
              obtain rfl := Option.some.inj h
              exact i_rret rfl rfl
        · replace h := (if_neg c7).symm.trans h
          refine i_rbF (c := (q3.2.1 42 (Int32.toNatClampNeg l1)) = (5 : Int32)) (t := 59) (n := 70) rfl c7 ?_
          refine i_rs 1 (cf' := (72, [some (.ref 0), some (.int l1), some (.int l2), some (.int (q3.2.1 44 (Int32.toNatClampNeg l1))), none], [.int (-12 : Int32)], i_S X q3.2)) rfl ?_
          obtain rfl := Option.some.inj h
          exact i_rret rfl rfl
def r_kindOf (l1 : Int32) (M : I_M) : Option (Int32 × I_M) :=
  i_g l1 50 (some ((M.1 68 (Int32.toNatClampNeg l1)), M))
theorem ok_r_kindOf {X : Nat × (Nat → Int32)} {d : Nat} {l1 : Int32} {M : I_M} {r : (Int32 × I_M)} (hd : 1 ≤ d) (h : r_kindOf l1 M = some r) : I_Ex d 263 [.ref 50, .int l1] (i_S X M) (some (.int r.1)) (i_S X r.2) := by
  obtain ⟨d, rfl⟩ : ∃ d1, d = d1 + 1 := ⟨d - 1, by omega⟩
  unfold r_kindOf at h
  refine i_ex (e := i_r263) (lv := [some (.ref 50), some (.int l1)]) rfl (Nat.le_of_ble_eq_true rfl) rfl ?_
  show I_RnE (I_Ex d) i_c263 (0, [some (.ref 50), some (.int l1)], [], i_S X M) _ _
  refine i_rs 3 (cf' := (5, [some (.ref 50), some (.int l1)], [.int l1, .ref 68], i_S X M)) rfl ?_
  obtain ⟨g1, h⟩ := i_gE h
  refine i_riald (n := 50) (cf' := (6, [some (.ref 50), some (.int l1)], [.int (M.1 68 (Int32.toNatClampNeg l1))], i_S X M)) rfl rfl (by decide) g1 rfl ?_
  obtain rfl := Option.some.inj h
  exact i_rret rfl rfl
def r_above (l0 : Int32) (M : I_M) : Option (Int32 × I_M) :=
  (if l0 = (3 : Int32) then
      some ((2 : Int32), M)
    else
      (if l0 = (4 : Int32) then
        some ((1 : Int32), M)
      else
        (if l0 = (5 : Int32) then
          some ((3 : Int32), M)
        else
          (if l0 = (7 : Int32) then
            some ((4 : Int32), M)
          else
            some ((0 : Int32), M)))))
theorem ok_r_above {X : Nat × (Nat → Int32)} {d : Nat} {l0 : Int32} {M : I_M} {r : (Int32 × I_M)} (hd : 1 ≤ d) (h : r_above l0 M = some r) : I_Ex d 264 [.int l0] (i_S X M) (some (.int r.1)) (i_S X r.2) := by
  obtain ⟨d, rfl⟩ : ∃ d1, d = d1 + 1 := ⟨d - 1, by omega⟩
  unfold r_above at h
  refine i_ex (e := i_r264) (lv := [some (.int l0)]) rfl (Nat.le_of_ble_eq_true rfl) rfl ?_
  show I_RnE (I_Ex d) i_c264 (0, [some (.int l0)], [], i_S X M) _ _
  refine i_rs 2 (cf' := (2, [some (.int l0)], [.int (3 : Int32), .int l0], i_S X M)) rfl ?_
  by_cases c1 : l0 = (3 : Int32)
  · replace h := (if_pos c1).symm.trans h
    refine i_rbT (c := l0 = (3 : Int32)) (t := 5) (n := 9) rfl c1 ?_
    refine i_rs 2 (cf' := (38, [some (.int l0)], [.int (2 : Int32)], i_S X M)) rfl ?_
    obtain rfl := Option.some.inj h
    exact i_rret rfl rfl
  · replace h := (if_neg c1).symm.trans h
    refine i_rbF (c := l0 = (3 : Int32)) (t := 5) (n := 9) rfl c1 ?_
    refine i_rs 2 (cf' := (11, [some (.int l0)], [.int (4 : Int32), .int l0], i_S X M)) rfl ?_
    by_cases c2 : l0 = (4 : Int32)
    · replace h := (if_pos c2).symm.trans h
      refine i_rbT (c := l0 = (4 : Int32)) (t := 14) (n := 18) rfl c2 ?_
      refine i_rs 2 (cf' := (38, [some (.int l0)], [.int (1 : Int32)], i_S X M)) rfl ?_
      obtain rfl := Option.some.inj h
      exact i_rret rfl rfl
    · replace h := (if_neg c2).symm.trans h
      refine i_rbF (c := l0 = (4 : Int32)) (t := 14) (n := 18) rfl c2 ?_
      refine i_rs 2 (cf' := (20, [some (.int l0)], [.int (5 : Int32), .int l0], i_S X M)) rfl ?_
      by_cases c3 : l0 = (5 : Int32)
      · replace h := (if_pos c3).symm.trans h
        refine i_rbT (c := l0 = (5 : Int32)) (t := 23) (n := 27) rfl c3 ?_
        refine i_rs 2 (cf' := (38, [some (.int l0)], [.int (3 : Int32)], i_S X M)) rfl ?_
        obtain rfl := Option.some.inj h
        exact i_rret rfl rfl
      · replace h := (if_neg c3).symm.trans h
        refine i_rbF (c := l0 = (5 : Int32)) (t := 23) (n := 27) rfl c3 ?_
        refine i_rs 2 (cf' := (30, [some (.int l0)], [.int (7 : Int32), .int l0], i_S X M)) rfl ?_
        by_cases c4 : l0 = (7 : Int32)
        · replace h := (if_pos c4).symm.trans h
          refine i_rbT (c := l0 = (7 : Int32)) (t := 33) (n := 37) rfl c4 ?_
          refine i_rs 2 (cf' := (38, [some (.int l0)], [.int (4 : Int32)], i_S X M)) rfl ?_
          obtain rfl := Option.some.inj h
          exact i_rret rfl rfl
        · replace h := (if_neg c4).symm.trans h
          refine i_rbF (c := l0 = (7 : Int32)) (t := 33) (n := 37) rfl c4 ?_
          refine i_rs 1 (cf' := (38, [some (.int l0)], [.int (0 : Int32)], i_S X M)) rfl ?_
          obtain rfl := Option.some.inj h
          exact i_rret rfl rfl
def r_taken_B75 (l1 : Int32) (l2 : Int32) (l3 : Int32) (M : I_M) : Option (Int32 × I_M) :=
  (if l3 = l2 then
      i_g l1 6 (Option.bind (r_kindOf (M.1 70 (Int32.toNatClampNeg l1)) M) (fun q6 => some (q6.1, q6.2)))
    else
      some ((-12 : Int32), M))
theorem ok_r_taken_B75 {X : Nat × (Nat → Int32)} {d : Nat} {l1 : Int32} {l2 : Int32} {l3 : Int32} {M : I_M} {r : (Int32 × I_M)} (hd : 3 ≤ d + 1) (h : r_taken_B75 l1 l2 l3 M = some r) : I_RnE (I_Ex d) i_c262 (75, [some (.ref 50), some (.int l1), some (.int l2), some (.int l3)], [], i_S X M) (some (.int r.1)) (i_S X r.2) := by
  unfold r_taken_B75 at h
  refine i_rs 2 (cf' := (77, [some (.ref 50), some (.int l1), some (.int l2), some (.int l3)], [.int l2, .int l3], i_S X M)) rfl ?_
  by_cases c4 : l3 = l2
  · replace h := (if_pos c4).symm.trans h
    refine i_rbT (c := l3 = l2) (t := 80) (n := 93) rfl c4 ?_
    refine i_rs 4 (cf' := (86, [some (.ref 50), some (.int l1), some (.int l2), some (.int l3)], [.int l1, .ref 70, .ref 50], i_S X M)) rfl ?_
    obtain ⟨g5, h⟩ := i_gE h
    refine i_riald (n := 6) (cf' := (87, [some (.ref 50), some (.int l1), some (.int l2), some (.int l3)], [.int (M.1 70 (Int32.toNatClampNeg l1)), .ref 50], i_S X M)) rfl rfl (by decide) g5 rfl ?_
    obtain ⟨q6, hq6, h⟩ := i_bdE h
    refine i_rcall (k := 263) (as := [.ref 50, .int (M.1 70 (Int32.toNatClampNeg l1))]) (cf1 := (90, [some (.ref 50), some (.int l1), some (.int l2), some (.int l3)], [], i_S X M)) (cf' := (90, [some (.ref 50), some (.int l1), some (.int l2), some (.int l3)], [.int q6.1], i_S X q6.2)) rfl (ok_r_kindOf (by omega) hq6) rfl ?_
    refine i_rs 1 (cf' := (95, [some (.ref 50), some (.int l1), some (.int l2), some (.int l3)], [.int q6.1], i_S X q6.2)) rfl ?_
    obtain rfl := Option.some.inj h
    exact i_rret rfl rfl
  · replace h := (if_neg c4).symm.trans h
    refine i_rbF (c := l3 = l2) (t := 80) (n := 93) rfl c4 ?_
    refine i_rs 1 (cf' := (95, [some (.ref 50), some (.int l1), some (.int l2), some (.int l3)], [.int (-12 : Int32)], i_S X M)) rfl ?_
    obtain rfl := Option.some.inj h
    exact i_rret rfl rfl
def r_taken_L58 (l1 : Int32) (l2 : Int32) (k75 : Int32 → I_M → Option (Int32 × I_M)) : Nat → Int32 → I_M → Option (Int32 × I_M)
  | 0, _, _ => none
  | n + 1, l3, M =>
    (if l3 = l2 then
        k75 l3 M
      else
        (if (0 : Int32) < l3 then
          Option.bind (r_above l3 M) (fun q3 => (r_taken_L58 l1 l2 k75 n) q3.1 q3.2)
        else
          k75 l3 M))
theorem ok_r_taken_L58 {X : Nat × (Nat → Int32)} {d : Nat} {l1 : Int32} {l2 : Int32} {k75 : Int32 → I_M → Option (Int32 × I_M)} (hd : 3 ≤ d + 1) (hk75 : ∀ (l3 : Int32) (M : I_M) (r : (Int32 × I_M)), k75 l3 M = some r → I_RnE (I_Ex d) i_c262 (75, [some (.ref 50), some (.int l1), some (.int l2), some (.int l3)], [], i_S X M) (some (.int r.1)) (i_S X r.2)) : ∀ (n : Nat) (l3 : Int32) (M : I_M) (r : (Int32 × I_M)), r_taken_L58 l1 l2 k75 n l3 M = some r → I_RnE (I_Ex d) i_c262 (58, [some (.ref 50), some (.int l1), some (.int l2), some (.int l3)], [], i_S X M) (some (.int r.1)) (i_S X r.2) := by
  intro n
  induction n with
  | zero => intro _ M r h; cases h
  | succ n hself =>
    intro l3 M r h
    rw [r_taken_L58] at h
    refine i_rs 2 (cf' := (60, [some (.ref 50), some (.int l1), some (.int l2), some (.int l3)], [.int l2, .int l3], i_S X M)) rfl ?_
    by_cases c1 : l3 = l2
    · replace h := (if_pos c1).symm.trans h
      refine i_rbT (c := l3 = l2) (t := 75) (n := 63) rfl c1 ?_
      refine i_fg (lv' := [some (.ref 50), some (.int l1), some (.int l2), some (.int l3)]) (And.intro rfl (And.intro rfl (And.intro rfl (And.intro rfl True.intro)))) ?_
      exact hk75 l3 M _ h
    · replace h := (if_neg c1).symm.trans h
      refine i_rbF (c := l3 = l2) (t := 75) (n := 63) rfl c1 ?_
      refine i_rs 1 (cf' := (64, [some (.ref 50), some (.int l1), some (.int l2), some (.int l3)], [.int l3], i_S X M)) rfl ?_
      by_cases c2 : (0 : Int32) < l3
      · replace h := (if_pos c2).symm.trans h
        refine i_rbT (c := (0 : Int32) < l3) (t := 67) (n := 75) rfl c2 ?_
        refine i_rs 1 (cf' := (68, [some (.ref 50), some (.int l1), some (.int l2), some (.int l3)], [.int l3], i_S X M)) rfl ?_
        obtain ⟨q3, hq3, h⟩ := i_bdE h
        refine i_rcall (k := 264) (as := [.int l3]) (cf1 := (71, [some (.ref 50), some (.int l1), some (.int l2), some (.int l3)], [], i_S X M)) (cf' := (71, [some (.ref 50), some (.int l1), some (.int l2), some (.int l3)], [.int q3.1], i_S X q3.2)) rfl (ok_r_above (by omega) hq3) rfl ?_
        refine i_rs 2 (cf' := (58, [some (.ref 50), some (.int l1), some (.int l2), some (.int q3.1)], [], i_S X q3.2)) rfl ?_
        refine i_fg (lv' := [some (.ref 50), some (.int l1), some (.int l2), some (.int q3.1)]) (And.intro rfl (And.intro rfl (And.intro rfl (And.intro rfl True.intro)))) ?_
        exact hself q3.1 q3.2 _ h
      · replace h := (if_neg c2).symm.trans h
        refine i_rbF (c := (0 : Int32) < l3) (t := 67) (n := 75) rfl c2 ?_
        refine i_fg (lv' := [some (.ref 50), some (.int l1), some (.int l2), some (.int l3)]) (And.intro rfl (And.intro rfl (And.intro rfl (And.intro rfl True.intro)))) ?_
        exact hk75 l3 M _ h
def r_taken (l1 : Int32) (l2 : Int32) (M : I_M) : Option (Int32 × I_M) :=
  Option.bind (r_isShelf l1 M) (fun q7 => (if q7.1 = (0 : Int32) then
      some ((-1 : Int32), q7.2)
    else
      Option.bind (r_within (Int32.toInt64 l2) (0 : Int64) (7 : Int64) q7.2) (fun q9 => (if q9.1 = (0 : Int32) then
        some ((-1 : Int32), q9.2)
      else
        i_g l1 6 ((if (q9.2.1 70 (Int32.toNatClampNeg l1)) < (0 : Int32) then
          some ((-11 : Int32), q9.2)
        else
          (if (q9.2.1 70 (Int32.toNatClampNeg l1)) < (50 : Int32) then
            Option.bind (r_kindOf (q9.2.1 70 (Int32.toNatClampNeg l1)) q9.2) (fun q14 => r_taken_L58 l1 l2 (fun l3_15 M15 =>
                r_taken_B75 l1 l2 l3_15 M15) i_F q14.1 q14.2)
          else
            some ((-12 : Int32), q9.2))))))))
theorem ok_r_taken {X : Nat × (Nat → Int32)} {d : Nat} {l1 : Int32} {l2 : Int32} {M : I_M} {r : (Int32 × I_M)} (hd : 3 ≤ d) (h : r_taken l1 l2 M = some r) : I_Ex d 262 [.ref 50, .int l1, .int l2] (i_S X M) (some (.int r.1)) (i_S X r.2) := by
  obtain ⟨d, rfl⟩ : ∃ d1, d = d1 + 1 := ⟨d - 1, by omega⟩
  unfold r_taken at h
  refine i_ex (e := i_r262) (lv := [some (.ref 50), some (.int l1), some (.int l2), none]) rfl (Nat.le_of_ble_eq_true rfl) rfl ?_
  show I_RnE (I_Ex d) i_c262 (0, [some (.ref 50), some (.int l1), some (.int l2), none], [], i_S X M) _ _
  refine i_rs 1 (cf' := (1, [some (.ref 50), some (.int l1), some (.int l2), none], [.int l1], i_S X M)) rfl ?_
  obtain ⟨q7, hq7, h⟩ := i_bdE h
  refine i_rcall (k := 181) (as := [.int l1]) (cf1 := (4, [some (.ref 50), some (.int l1), some (.int l2), none], [], i_S X M)) (cf' := (4, [some (.ref 50), some (.int l1), some (.int l2), none], [.int q7.1], i_S X q7.2)) rfl (ok_r_isShelf (by omega) hq7) rfl ?_
  by_cases c8 : q7.1 = (0 : Int32)
  · replace h := (if_pos c8).symm.trans h
    refine i_rbT (c := q7.1 = (0 : Int32)) (t := 19) (n := 7) rfl c8 ?_
    refine i_rs 1 (cf' := (20, [some (.ref 50), some (.int l1), some (.int l2), none], [.int (-1 : Int32)], i_S X q7.2)) rfl ?_
    obtain rfl := Option.some.inj h
    exact i_rret rfl rfl
  · replace h := (if_neg c8).symm.trans h
    refine i_rbF (c := q7.1 = (0 : Int32)) (t := 19) (n := 7) rfl c8 ?_
    refine i_rs 4 (cf' := (13, [some (.ref 50), some (.int l1), some (.int l2), none], [.long (7 : Int64), .long (0 : Int64), .long (Int32.toInt64 l2)], i_S X q7.2)) rfl ?_
    obtain ⟨q9, hq9, h⟩ := i_bdE h
    refine i_rcall (k := 175) (as := [.long (Int32.toInt64 l2), .long (0 : Int64), .long (7 : Int64)]) (cf1 := (16, [some (.ref 50), some (.int l1), some (.int l2), none], [], i_S X q7.2)) (cf' := (16, [some (.ref 50), some (.int l1), some (.int l2), none], [.int q9.1], i_S X q9.2)) rfl (ok_r_within (by omega) hq9) rfl ?_
    by_cases c10 : q9.1 = (0 : Int32)
    · replace h := (if_pos c10).symm.trans h
      refine i_rbT (c := q9.1 = (0 : Int32)) (t := 19) (n := 21) rfl c10 ?_
      refine i_rs 1 (cf' := (20, [some (.ref 50), some (.int l1), some (.int l2), none], [.int (-1 : Int32)], i_S X q9.2)) rfl ?_
      obtain rfl := Option.some.inj h
      exact i_rret rfl rfl
    · replace h := (if_neg c10).symm.trans h
      refine i_rbF (c := q9.1 = (0 : Int32)) (t := 19) (n := 21) rfl c10 ?_
      refine i_rs 3 (cf' := (26, [some (.ref 50), some (.int l1), some (.int l2), none], [.int l1, .ref 70], i_S X q9.2)) rfl ?_
      obtain ⟨g11, h⟩ := i_gE h
      refine i_riald (n := 6) (cf' := (27, [some (.ref 50), some (.int l1), some (.int l2), none], [.int (q9.2.1 70 (Int32.toNatClampNeg l1))], i_S X q9.2)) rfl rfl (by decide) g11 rfl ?_
      by_cases c12 : (q9.2.1 70 (Int32.toNatClampNeg l1)) < (0 : Int32)
      · replace h := (if_pos c12).symm.trans h
        refine i_rbT (c := (q9.2.1 70 (Int32.toNatClampNeg l1)) < (0 : Int32)) (t := 30) (n := 33) rfl c12 ?_
        refine i_rs 1 (cf' := (32, [some (.ref 50), some (.int l1), some (.int l2), none], [.int (-11 : Int32)], i_S X q9.2)) rfl ?_
        obtain rfl := Option.some.inj h
        exact i_rret rfl rfl
      · replace h := (if_neg c12).symm.trans h
        refine i_rbF (c := (q9.2.1 70 (Int32.toNatClampNeg l1)) < (0 : Int32)) (t := 30) (n := 33) rfl c12 ?_
        refine i_rs 3 (cf' := (38, [some (.ref 50), some (.int l1), some (.int l2), none], [.int l1, .ref 70], i_S X q9.2)) rfl ?_
        refine i_riald (n := 6) (cf' := (39, [some (.ref 50), some (.int l1), some (.int l2), none], [.int (q9.2.1 70 (Int32.toNatClampNeg l1))], i_S X q9.2)) rfl rfl (by decide) g11 rfl ?_
        refine i_rs 1 (cf' := (41, [some (.ref 50), some (.int l1), some (.int l2), none], [.int (50 : Int32), .int (q9.2.1 70 (Int32.toNatClampNeg l1))], i_S X q9.2)) rfl ?_
        by_cases c13 : (q9.2.1 70 (Int32.toNatClampNeg l1)) < (50 : Int32)
        · replace h := (if_pos c13).symm.trans h
          refine i_rbT (c := (q9.2.1 70 (Int32.toNatClampNeg l1)) < (50 : Int32)) (t := 47) (n := 44) rfl c13 ?_
          refine i_rs 4 (cf' := (53, [some (.ref 50), some (.int l1), some (.int l2), none], [.int l1, .ref 70, .ref 50], i_S X q9.2)) rfl ?_
          refine i_riald (n := 6) (cf' := (54, [some (.ref 50), some (.int l1), some (.int l2), none], [.int (q9.2.1 70 (Int32.toNatClampNeg l1)), .ref 50], i_S X q9.2)) rfl rfl (by decide) g11 rfl ?_
          obtain ⟨q14, hq14, h⟩ := i_bdE h
          refine i_rcall (k := 263) (as := [.ref 50, .int (q9.2.1 70 (Int32.toNatClampNeg l1))]) (cf1 := (57, [some (.ref 50), some (.int l1), some (.int l2), none], [], i_S X q9.2)) (cf' := (57, [some (.ref 50), some (.int l1), some (.int l2), none], [.int q14.1], i_S X q14.2)) rfl (ok_r_kindOf (by omega) hq14) rfl ?_
          refine i_rs 1 (cf' := (58, [some (.ref 50), some (.int l1), some (.int l2), some (.int q14.1)], [], i_S X q14.2)) rfl ?_
          refine i_fg (lv' := [some (.ref 50), some (.int l1), some (.int l2), some (.int q14.1)]) (And.intro rfl (And.intro rfl (And.intro rfl (And.intro rfl True.intro)))) ?_
          refine ok_r_taken_L58 (by omega) (fun l3_15 M15 r h => ?_) i_F q14.1 q14.2 _ h
          refine i_fg (lv' := [some (.ref 50), some (.int l1), some (.int l2), some (.int l3_15)]) (And.intro rfl (And.intro rfl (And.intro rfl (And.intro rfl True.intro)))) ?_
          exact ok_r_taken_B75 (by omega) h
        · replace h := (if_neg c13).symm.trans h
          refine i_rbF (c := (q9.2.1 70 (Int32.toNatClampNeg l1)) < (50 : Int32)) (t := 47) (n := 44) rfl c13 ?_
          refine i_rs 1 (cf' := (46, [some (.ref 50), some (.int l1), some (.int l2), none], [.int (-12 : Int32)], i_S X q9.2)) rfl ?_
          obtain rfl := Option.some.inj h
          exact i_rret rfl rfl
def b_count (l1 : Int32) (M : I_M) : Option (Int32 × I_M) :=
  (if l1 = (0 : Int32) then
      some ((M.1 13 6), M)
    else
      (if l1 = (1 : Int32) then
        Option.bind (b_Land_cells M) (fun q3 => some (q3.1, q3.2))
      else
        (if l1 = (2 : Int32) then
          some ((M.1 18 3), M)
        else
          (if l1 = (3 : Int32) then
            Option.bind (j_bitCount (M.1 13 7) M) (fun q6 => some (q6.1, q6.2))
          else
            (if l1 = (4 : Int32) then
              some ((M.1 6 1), M)
            else
              (if l1 = (5 : Int32) then
                some ((M.1 31 4), M)
              else
                (if l1 = (6 : Int32) then
                  some ((M.1 38 1), M)
                else
                  (if l1 = (7 : Int32) then
                    some ((M.1 38 3), M)
                  else
                    some ((-1 : Int32), M)))))))))
theorem ok_b_count {X : Nat × (Nat → Int32)} {d : Nat} {l1 : Int32} {M : I_M} {r : (Int32 × I_M)} (hd : 2 ≤ d) (h : b_count l1 M = some r) : I_Ex d 169 [.ref 0, .int l1] (i_S X M) (some (.int r.1)) (i_S X r.2) := by
  obtain ⟨d, rfl⟩ : ∃ d1, d = d1 + 1 := ⟨d - 1, by omega⟩
  unfold b_count at h
  refine i_ex (e := i_r169) (lv := [some (.ref 0), some (.int l1)]) rfl (Nat.le_of_ble_eq_true rfl) rfl ?_
  show I_RnE (I_Ex d) i_c169 (0, [some (.ref 0), some (.int l1)], [], i_S X M) _ _
  refine i_rs 1 (cf' := (1, [some (.ref 0), some (.int l1)], [.int l1], i_S X M)) rfl ?_
  refine i_stp1 (cf' := (i_sw l1 115 [(0, 48), (1, 56), (2, 64), (3, 72), (4, 83), (5, 91), (6, 99), (7, 107)], [some (.ref 0), some (.int l1)], [], i_S X M)) rfl ?_
  by_cases c1 : l1 = (0 : Int32)
  · replace h := (if_pos c1).symm.trans h
    refine i_rswT c1 ?_
    refine i_rs 3 (cf' := (55, [some (.ref 0), some (.int l1)], [.int (M.1 13 6)], i_S X M)) rfl ?_
    obtain rfl := Option.some.inj h
    exact i_rret rfl rfl
  · replace h := (if_neg c1).symm.trans h
    refine i_rswF c1 ?_
    by_cases c2 : l1 = (1 : Int32)
    · replace h := (if_pos c2).symm.trans h
      refine i_rswT c2 ?_
      refine i_rs 2 (cf' := (60, [some (.ref 0), some (.int l1)], [.ref 1], i_S X M)) rfl ?_
      obtain ⟨q3, hq3, h⟩ := i_bdE h
      refine i_rcall (k := 21) (as := [.ref 1]) (cf1 := (63, [some (.ref 0), some (.int l1)], [], i_S X M)) (cf' := (63, [some (.ref 0), some (.int l1)], [.int q3.1], i_S X q3.2)) rfl (ok_b_Land_cells (by omega) hq3) rfl ?_
      obtain rfl := Option.some.inj h
      exact i_rret rfl rfl
    · replace h := (if_neg c2).symm.trans h
      refine i_rswF c2 ?_
      by_cases c4 : l1 = (2 : Int32)
      · replace h := (if_pos c4).symm.trans h
        refine i_rswT c4 ?_
        refine i_rs 3 (cf' := (71, [some (.ref 0), some (.int l1)], [.int (M.1 18 3)], i_S X M)) rfl ?_
        obtain rfl := Option.some.inj h
        exact i_rret rfl rfl
      · replace h := (if_neg c4).symm.trans h
        refine i_rswF c4 ?_
        by_cases c5 : l1 = (3 : Int32)
        · replace h := (if_pos c5).symm.trans h
          refine i_rswT c5 ?_
          refine i_rs 3 (cf' := (79, [some (.ref 0), some (.int l1)], [.int (M.1 13 7)], i_S X M)) rfl ?_
          obtain ⟨q6, hq6, h⟩ := i_bdE h
          refine i_rcall (k := 105) (as := [.int (M.1 13 7)]) (cf1 := (82, [some (.ref 0), some (.int l1)], [], i_S X M)) (cf' := (82, [some (.ref 0), some (.int l1)], [.int q6.1], i_S X q6.2)) rfl (ok_j_bitCount (by omega) hq6) rfl ?_
          obtain rfl := Option.some.inj h
          exact i_rret rfl rfl
        · replace h := (if_neg c5).symm.trans h
          refine i_rswF c5 ?_
          by_cases c7 : l1 = (4 : Int32)
          · replace h := (if_pos c7).symm.trans h
            refine i_rswT c7 ?_
            refine i_rs 3 (cf' := (90, [some (.ref 0), some (.int l1)], [.int (M.1 6 1)], i_S X M)) rfl ?_
            obtain rfl := Option.some.inj h
            exact i_rret rfl rfl
          · replace h := (if_neg c7).symm.trans h
            refine i_rswF c7 ?_
            by_cases c8 : l1 = (5 : Int32)
            · replace h := (if_pos c8).symm.trans h
              refine i_rswT c8 ?_
              refine i_rs 3 (cf' := (98, [some (.ref 0), some (.int l1)], [.int (M.1 31 4)], i_S X M)) rfl ?_
              obtain rfl := Option.some.inj h
              exact i_rret rfl rfl
            · replace h := (if_neg c8).symm.trans h
              refine i_rswF c8 ?_
              by_cases c9 : l1 = (6 : Int32)
              · replace h := (if_pos c9).symm.trans h
                refine i_rswT c9 ?_
                refine i_rs 3 (cf' := (106, [some (.ref 0), some (.int l1)], [.int (M.1 38 1)], i_S X M)) rfl ?_
                obtain rfl := Option.some.inj h
                exact i_rret rfl rfl
              · replace h := (if_neg c9).symm.trans h
                refine i_rswF c9 ?_
                by_cases c10 : l1 = (7 : Int32)
                · replace h := (if_pos c10).symm.trans h
                  refine i_rswT c10 ?_
                  refine i_rs 3 (cf' := (114, [some (.ref 0), some (.int l1)], [.int (M.1 38 3)], i_S X M)) rfl ?_
                  obtain rfl := Option.some.inj h
                  exact i_rret rfl rfl
                · replace h := (if_neg c10).symm.trans h
                  refine i_rswF c10 ?_
                  refine i_rs 1 (cf' := (116, [some (.ref 0), some (.int l1)], [.int (-1 : Int32)], i_S X M)) rfl ?_
                  obtain rfl := Option.some.inj h
                  exact i_rret rfl rfl
def r_count (l1 : Int32) (M : I_M) : Option (Int32 × I_M) :=
  (if l1 = (0 : Int32) then
      some ((M.1 50 8), M)
    else
      (if l1 = (1 : Int32) then
        Option.bind (r_cells M) (fun q3 => some (q3.1, q3.2))
      else
        (if l1 = (2 : Int32) then
          some ((M.1 50 24), M)
        else
          (if l1 = (3 : Int32) then
            Option.bind (r_bitsOf (M.1 50 12) M) (fun q6 => some (q6.1, q6.2))
          else
            (if l1 = (4 : Int32) then
              some ((M.1 50 15), M)
            else
              (if l1 = (5 : Int32) then
                some ((M.1 50 5), M)
              else
                (if l1 = (6 : Int32) then
                  some ((M.1 50 46), M)
                else
                  (if l1 = (7 : Int32) then
                    some ((M.1 50 49), M)
                  else
                    some ((-1 : Int32), M)))))))))
theorem ok_r_count {X : Nat × (Nat → Int32)} {d : Nat} {l1 : Int32} {M : I_M} {r : (Int32 × I_M)} (hd : 2 ≤ d) (h : r_count l1 M = some r) : I_Ex d 265 [.ref 50, .int l1] (i_S X M) (some (.int r.1)) (i_S X r.2) := by
  obtain ⟨d, rfl⟩ : ∃ d1, d = d1 + 1 := ⟨d - 1, by omega⟩
  unfold r_count at h
  refine i_ex (e := i_r265) (lv := [some (.ref 50), some (.int l1)]) rfl (Nat.le_of_ble_eq_true rfl) rfl ?_
  show I_RnE (I_Ex d) i_c265 (0, [some (.ref 50), some (.int l1)], [], i_S X M) _ _
  refine i_rs 1 (cf' := (1, [some (.ref 50), some (.int l1)], [.int l1], i_S X M)) rfl ?_
  refine i_stp1 (cf' := (i_sw l1 91 [(0, 48), (1, 53), (2, 58), (3, 63), (4, 71), (5, 76), (6, 81), (7, 86)], [some (.ref 50), some (.int l1)], [], i_S X M)) rfl ?_
  by_cases c1 : l1 = (0 : Int32)
  · replace h := (if_pos c1).symm.trans h
    refine i_rswT c1 ?_
    refine i_rs 2 (cf' := (52, [some (.ref 50), some (.int l1)], [.int (M.1 50 8)], i_S X M)) rfl ?_
    obtain rfl := Option.some.inj h
    exact i_rret rfl rfl
  · replace h := (if_neg c1).symm.trans h
    refine i_rswF c1 ?_
    by_cases c2 : l1 = (1 : Int32)
    · replace h := (if_pos c2).symm.trans h
      refine i_rswT c2 ?_
      refine i_rs 1 (cf' := (54, [some (.ref 50), some (.int l1)], [.ref 50], i_S X M)) rfl ?_
      obtain ⟨q3, hq3, h⟩ := i_bdE h
      refine i_rcall (k := 178) (as := [.ref 50]) (cf1 := (57, [some (.ref 50), some (.int l1)], [], i_S X M)) (cf' := (57, [some (.ref 50), some (.int l1)], [.int q3.1], i_S X q3.2)) rfl (ok_r_cells (by omega) hq3) rfl ?_
      obtain rfl := Option.some.inj h
      exact i_rret rfl rfl
    · replace h := (if_neg c2).symm.trans h
      refine i_rswF c2 ?_
      by_cases c4 : l1 = (2 : Int32)
      · replace h := (if_pos c4).symm.trans h
        refine i_rswT c4 ?_
        refine i_rs 2 (cf' := (62, [some (.ref 50), some (.int l1)], [.int (M.1 50 24)], i_S X M)) rfl ?_
        obtain rfl := Option.some.inj h
        exact i_rret rfl rfl
      · replace h := (if_neg c4).symm.trans h
        refine i_rswF c4 ?_
        by_cases c5 : l1 = (3 : Int32)
        · replace h := (if_pos c5).symm.trans h
          refine i_rswT c5 ?_
          refine i_rs 2 (cf' := (67, [some (.ref 50), some (.int l1)], [.int (M.1 50 12)], i_S X M)) rfl ?_
          obtain ⟨q6, hq6, h⟩ := i_bdE h
          refine i_rcall (k := 218) (as := [.int (M.1 50 12)]) (cf1 := (70, [some (.ref 50), some (.int l1)], [], i_S X M)) (cf' := (70, [some (.ref 50), some (.int l1)], [.int q6.1], i_S X q6.2)) rfl (ok_r_bitsOf (by omega) hq6) rfl ?_
          obtain rfl := Option.some.inj h
          exact i_rret rfl rfl
        · replace h := (if_neg c5).symm.trans h
          refine i_rswF c5 ?_
          by_cases c7 : l1 = (4 : Int32)
          · replace h := (if_pos c7).symm.trans h
            refine i_rswT c7 ?_
            refine i_rs 2 (cf' := (75, [some (.ref 50), some (.int l1)], [.int (M.1 50 15)], i_S X M)) rfl ?_
            obtain rfl := Option.some.inj h
            exact i_rret rfl rfl
          · replace h := (if_neg c7).symm.trans h
            refine i_rswF c7 ?_
            by_cases c8 : l1 = (5 : Int32)
            · replace h := (if_pos c8).symm.trans h
              refine i_rswT c8 ?_
              refine i_rs 2 (cf' := (80, [some (.ref 50), some (.int l1)], [.int (M.1 50 5)], i_S X M)) rfl ?_
              obtain rfl := Option.some.inj h
              exact i_rret rfl rfl
            · replace h := (if_neg c8).symm.trans h
              refine i_rswF c8 ?_
              by_cases c9 : l1 = (6 : Int32)
              · replace h := (if_pos c9).symm.trans h
                refine i_rswT c9 ?_
                refine i_rs 2 (cf' := (85, [some (.ref 50), some (.int l1)], [.int (M.1 50 46)], i_S X M)) rfl ?_
                obtain rfl := Option.some.inj h
                exact i_rret rfl rfl
              · replace h := (if_neg c9).symm.trans h
                refine i_rswF c9 ?_
                by_cases c10 : l1 = (7 : Int32)
                · replace h := (if_pos c10).symm.trans h
                  refine i_rswT c10 ?_
                  refine i_rs 2 (cf' := (90, [some (.ref 50), some (.int l1)], [.int (M.1 50 49)], i_S X M)) rfl ?_
                  obtain rfl := Option.some.inj h
                  exact i_rret rfl rfl
                · replace h := (if_neg c10).symm.trans h
                  refine i_rswF c10 ?_
                  refine i_rs 1 (cf' := (92, [some (.ref 50), some (.int l1)], [.int (-1 : Int32)], i_S X M)) rfl ?_
                  obtain rfl := Option.some.inj h
                  exact i_rret rfl rfl
