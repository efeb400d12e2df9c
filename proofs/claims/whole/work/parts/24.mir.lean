/-! ===== part 24: mirrors and what they say (written by wip/whole/mir.py) ===== -/
def r_source_L23 (l1 : Int32) : Nat → Int32 → Int32 → I_M → Option (Int32 × I_M)
  | 0, _, _, _ => none
  | n + 1, l2, l3, M =>
    (if l3 < l1 then
        Option.bind (r_bitsOf l3 M) (fun q2 => Option.bind (r_bitsOf l2 q2.2) (fun q3 => (if q2.1 < q3.1 then
          Option.bind (r_chainOf l3 q3.2) (fun q5 => (if q5.1 = l1 then
            (r_source_L23 l1 n) l3 (l3 + (1 : Int32)) q5.2
          else
            (r_source_L23 l1 n) l2 (l3 + (1 : Int32)) q5.2))
        else
          (r_source_L23 l1 n) l2 (l3 + (1 : Int32)) q3.2)))
      else
        some (l2, M))
theorem ok_r_source_L23 {X : Nat × (Nat → Int32)} {d : Nat} {l1 : Int32} (hd : 72 ≤ d + 1) : ∀ (n : Nat) (l2 : Int32) (l3 : Int32) (M : I_M) (r : (Int32 × I_M)), r_source_L23 l1 n l2 l3 M = some r → I_RnE (I_Ex d) i_c235 (23, [some (.ref 50), some (.int l1), some (.int l2), some (.int l3)], [], i_S X M) (some (.int r.1)) (i_S X r.2) := by
  intro n
  induction n with
  | zero => intro _ _ M r h; cases h
  | succ n hself =>
    intro l2 l3 M r h
    rw [r_source_L23] at h
    refine i_rs 2 (cf' := (25, [some (.ref 50), some (.int l1), some (.int l2), some (.int l3)], [.int l1, .int l3], i_S X M)) rfl ?_
    by_cases c1 : l3 < l1
    · replace h := (if_pos c1).symm.trans h
      refine i_rbT (c := l3 < l1) (t := 28) (n := 60) rfl c1 ?_
      refine i_rs 1 (cf' := (29, [some (.ref 50), some (.int l1), some (.int l2), some (.int l3)], [.int l3], i_S X M)) rfl ?_
      obtain ⟨q2, hq2, h⟩ := i_bdE h
      refine i_rcall (k := 218) (as := [.int l3]) (cf1 := (32, [some (.ref 50), some (.int l1), some (.int l2), some (.int l3)], [], i_S X M)) (cf' := (32, [some (.ref 50), some (.int l1), some (.int l2), some (.int l3)], [.int q2.1], i_S X q2.2)) rfl (ok_r_bitsOf (by omega) hq2) rfl ?_
      refine i_rs 1 (cf' := (33, [some (.ref 50), some (.int l1), some (.int l2), some (.int l3)], [.int l2, .int q2.1], i_S X q2.2)) rfl ?_
      obtain ⟨q3, hq3, h⟩ := i_bdE h
      refine i_rcall (k := 218) (as := [.int l2]) (cf1 := (36, [some (.ref 50), some (.int l1), some (.int l2), some (.int l3)], [.int q2.1], i_S X q2.2)) (cf' := (36, [some (.ref 50), some (.int l1), some (.int l2), some (.int l3)], [.int q3.1, .int q2.1], i_S X q3.2)) rfl (ok_r_bitsOf (by omega) hq3) rfl ?_
      by_cases c4 : q2.1 < q3.1
      · replace h := (if_pos c4).symm.trans h
        refine i_rbT (c := q2.1 < q3.1) (t := 39) (n := 52) rfl c4 ?_
        refine i_rs 2 (cf' := (41, [some (.ref 50), some (.int l1), some (.int l2), some (.int l3)], [.int l3, .ref 50], i_S X q3.2)) rfl ?_
        obtain ⟨q5, hq5, h⟩ := i_bdE h
        refine i_rcall (k := 231) (as := [.ref 50, .int l3]) (cf1 := (44, [some (.ref 50), some (.int l1), some (.int l2), some (.int l3)], [], i_S X q3.2)) (cf' := (44, [some (.ref 50), some (.int l1), some (.int l2), some (.int l3)], [.int q5.1], i_S X q5.2)) rfl (ok_r_chainOf (by omega) hq5) rfl ?_
        refine i_rs 1 (cf' := (45, [some (.ref 50), some (.int l1), some (.int l2), some (.int l3)], [.int l1, .int q5.1], i_S X q5.2)) rfl ?_
        by_cases c6 : q5.1 = l1
        · replace h := (if_pos c6).symm.trans h
          refine i_rbT (c := q5.1 = l1) (t := 48) (n := 52) rfl c6 ?_
          refine i_rs 5 (cf' := (23, [some (.ref 50), some (.int l1), some (.int l3), some (.int (l3 + (1 : Int32)))], [], i_S X q5.2)) rfl ?_
          refine i_fg (lv' := [some (.ref 50), some (.int l1), some (.int l3), some (.int (l3 + (1 : Int32)))]) (And.intro rfl (And.intro rfl (And.intro rfl (And.intro rfl True.intro)))) ?_
          exact hself l3 (l3 + (1 : Int32)) q5.2 _ h
        · replace h := (if_neg c6).symm.trans h
          refine i_rbF (c := q5.1 = l1) (t := 48) (n := 52) rfl c6 ?_
          refine i_rs 4 (cf' := (23, [some (.ref 50), some (.int l1), some (.int l2), some (.int (l3 + (1 : Int32)))], [], i_S X q5.2)) rfl ?_
          refine i_fg (lv' := [some (.ref 50), some (.int l1), some (.int l2), some (.int (l3 + (1 : Int32)))]) (And.intro rfl (And.intro rfl (And.intro rfl (And.intro rfl True.intro)))) ?_
          exact hself l2 (l3 + (1 : Int32)) q5.2 _ h
      · replace h := (if_neg c4).symm.trans h
        refine i_rbF (c := q2.1 < q3.1) (t := 39) (n := 52) rfl c4 ?_
        refine i_rs 4 (cf' := (23, [some (.ref 50), some (.int l1), some (.int l2), some (.int (l3 + (1 : Int32)))], [], i_S X q3.2)) rfl ?_
        refine i_fg (lv' := [some (.ref 50), some (.int l1), some (.int l2), some (.int (l3 + (1 : Int32)))]) (And.intro rfl (And.intro rfl (And.intro rfl (And.intro rfl True.intro)))) ?_
        exact hself l2 (l3 + (1 : Int32)) q3.2 _ h
    · replace h := (if_neg c1).symm.trans h
      refine i_rbF (c := l3 < l1) (t := 28) (n := 60) rfl c1 ?_
      refine i_rs 1 (cf' := (61, [some (.ref 50), some (.int l1), some (.int l2), some (.int l3)], [.int l2], i_S X M)) rfl ?_
      obtain rfl := Option.some.inj h
      exact i_rret rfl rfl
def r_source (M : I_M) : Option (Int32 × I_M) :=
  (if (M.1 50 8) = (0 : Int32) then
      some ((-5 : Int32), M)
    else
      r_source_L23 (((1 : Int32) <<< ((M.1 50 8) &&& 31)) - (1 : Int32)) i_F (((1 : Int32) <<< ((M.1 50 8) &&& 31)) - (1 : Int32)) (0 : Int32) M)
theorem ok_r_source {X : Nat × (Nat → Int32)} {d : Nat} {M : I_M} {r : (Int32 × I_M)} (hd : 72 ≤ d) (h : r_source M = some r) : I_Ex d 235 [.ref 50] (i_S X M) (some (.int r.1)) (i_S X r.2) := by
  obtain ⟨d, rfl⟩ : ∃ d1, d = d1 + 1 := ⟨d - 1, by omega⟩
  unfold r_source at h
  refine i_ex (e := i_r235) (lv := [some (.ref 50), none, none, none]) rfl (Nat.le_of_ble_eq_true rfl) rfl ?_
  show I_RnE (I_Ex d) i_c235 (0, [some (.ref 50), none, none, none], [], i_S X M) _ _
  refine i_rs 2 (cf' := (4, [some (.ref 50), none, none, none], [.int (M.1 50 8)], i_S X M)) rfl ?_
  by_cases c7 : (M.1 50 8) = (0 : Int32)
  · replace h := (if_pos c7).symm.trans h
    refine i_rbT (c := (M.1 50 8) = (0 : Int32)) (t := 7) (n := 10) rfl c7 ?_
    refine i_rs 1 (cf' := (9, [some (.ref 50), none, none, none], [.int (-5 : Int32)], i_S X M)) rfl ?_
    obtain rfl := Option.some.inj h
    exact i_rret rfl rfl
  · replace h := (if_neg c7).symm.trans h
    refine i_rbF (c := (M.1 50 8) = (0 : Int32)) (t := 7) (n := 10) rfl c7 ?_
    refine i_rs 11 (cf' := (23, [some (.ref 50), some (.int (((1 : Int32) <<< ((M.1 50 8) &&& 31)) - (1 : Int32))), some (.int (((1 : Int32) <<< ((M.1 50 8) &&& 31)) - (1 : Int32))), some (.int (0 : Int32))], [], i_S X M)) rfl ?_
    refine i_fg (lv' := [some (.ref 50), some (.int (((1 : Int32) <<< ((M.1 50 8) &&& 31)) - (1 : Int32))), some (.int (((1 : Int32) <<< ((M.1 50 8) &&& 31)) - (1 : Int32))), some (.int (0 : Int32))]) (And.intro rfl (And.intro rfl (And.intro rfl (And.intro rfl True.intro)))) ?_
    refine ok_r_source_L23 (by omega) i_F (((1 : Int32) <<< ((M.1 50 8) &&& 31)) - (1 : Int32)) (0 : Int32) M _ h
def b_tune (l1 : Int32) (l2 : Int32) (M : I_M) : Option (Int32 × I_M) :=
  (if l1 < (0 : Int32) then
      some ((-1 : Int32), M)
    else
      (if l1 < (6 : Int32) then
        (if l2 < (0 : Int32) then
          some ((-1 : Int32), M)
        else
          (if (9999 : Int32) < l2 then
            some ((-1 : Int32), M)
          else
            i_g l1 6 (some ((M.1 37 (Int32.toNatClampNeg l1)), (i_wI M 37 (Int32.toNatClampNeg l1) l2)))))
      else
        some ((-1 : Int32), M)))
theorem ok_b_tune {X : Nat × (Nat → Int32)} {d : Nat} {l1 : Int32} {l2 : Int32} {M : I_M} {r : (Int32 × I_M)} (hd : 1 ≤ d) (h : b_tune l1 l2 M = some r) : I_Ex d 120 [.ref 0, .int l1, .int l2] (i_S X M) (some (.int r.1)) (i_S X r.2) := by
  obtain ⟨d, rfl⟩ : ∃ d1, d = d1 + 1 := ⟨d - 1, by omega⟩
  unfold b_tune at h
  refine i_ex (e := i_r120) (lv := [some (.ref 0), some (.int l1), some (.int l2), none]) rfl (Nat.le_of_ble_eq_true rfl) rfl ?_
  show I_RnE (I_Ex d) i_c120 (0, [some (.ref 0), some (.int l1), some (.int l2), none], [], i_S X M) _ _
  refine i_rs 1 (cf' := (1, [some (.ref 0), some (.int l1), some (.int l2), none], [.int l1], i_S X M)) rfl ?_
  by_cases c1 : l1 < (0 : Int32)
  · replace h := (if_pos c1).symm.trans h
    refine i_rbT (c := l1 < (0 : Int32)) (t := 21) (n := 4) rfl c1 ?_
    refine i_rs 1 (cf' := (22, [some (.ref 0), some (.int l1), some (.int l2), none], [.int (-1 : Int32)], i_S X M)) rfl ?_
    obtain rfl := Option.some.inj h
    exact i_rret rfl rfl
  · replace h := (if_neg c1).symm.trans h
    refine i_rbF (c := l1 < (0 : Int32)) (t := 21) (n := 4) rfl c1 ?_
    refine i_rs 2 (cf' := (7, [some (.ref 0), some (.int l1), some (.int l2), none], [.int (6 : Int32), .int l1], i_S X M)) rfl ?_
    by_cases c2 : l1 < (6 : Int32)
    · replace h := (if_pos c2).symm.trans h
      refine i_rbT (c := l1 < (6 : Int32)) (t := 10) (n := 21) rfl c2 ?_
      refine i_rs 1 (cf' := (11, [some (.ref 0), some (.int l1), some (.int l2), none], [.int l2], i_S X M)) rfl ?_
      by_cases c3 : l2 < (0 : Int32)
      · replace h := (if_pos c3).symm.trans h
        refine i_rbT (c := l2 < (0 : Int32)) (t := 21) (n := 14) rfl c3 ?_
        refine i_rs 1 (cf' := (22, [some (.ref 0), some (.int l1), some (.int l2), none], [.int (-1 : Int32)], i_S X M)) rfl ?_
        obtain rfl := Option.some.inj h
        exact i_rret rfl rfl
      · replace h := (if_neg c3).symm.trans h
        refine i_rbF (c := l2 < (0 : Int32)) (t := 21) (n := 14) rfl c3 ?_
        refine i_rs 2 (cf' := (18, [some (.ref 0), some (.int l1), some (.int l2), none], [.int (9999 : Int32), .int l2], i_S X M)) rfl ?_
        by_cases c4 : (9999 : Int32) < l2
        · replace h := (if_pos c4).symm.trans h
          refine i_rbT (c := (9999 : Int32) < l2) (t := 21) (n := 23) rfl c4 ?_
          refine i_rs 1 (cf' := (22, [some (.ref 0), some (.int l1), some (.int l2), none], [.int (-1 : Int32)], i_S X M)) rfl ?_
          obtain rfl := Option.some.inj h
          exact i_rret rfl rfl
        · replace h := (if_neg c4).symm.trans h
          refine i_rbF (c := (9999 : Int32) < l2) (t := 21) (n := 23) rfl c4 ?_
          refine i_rs 4 (cf' := (31, [some (.ref 0), some (.int l1), some (.int l2), none], [.int l1, .ref 37], i_S X M)) rfl ?_
          obtain ⟨g5, h⟩ := i_gE h
          refine i_riald (n := 6) (cf' := (32, [some (.ref 0), some (.int l1), some (.int l2), none], [.int (M.1 37 (Int32.toNatClampNeg l1))], i_S X M)) rfl rfl (by decide) g5 rfl ?_
          refine i_rs 6 (cf' := (42, [some (.ref 0), some (.int l1), some (.int l2), some (.int (M.1 37 (Int32.toNatClampNeg l1)))], [.int l2, .int l1, .ref 37], i_S X M)) rfl ?_
          refine i_riast (n := 6) (cf' := (43, [some (.ref 0), some (.int l1), some (.int l2), some (.int (M.1 37 (Int32.toNatClampNeg l1)))], [], i_S X (i_wI M 37 (Int32.toNatClampNeg l1) l2))) rfl rfl (Or.inl rfl) g5 rfl ?_
          refine i_rs 1 (cf' := (44, [some (.ref 0), some (.int l1), some (.int l2), some (.int (M.1 37 (Int32.toNatClampNeg l1)))], [.int (M.1 37 (Int32.toNatClampNeg l1))], i_S X (i_wI M 37 (Int32.toNatClampNeg l1) l2))) rfl ?_
          obtain rfl := Option.some.inj h
          exact i_rret rfl rfl
    · replace h := (if_neg c2).symm.trans h
      refine i_rbF (c := l1 < (6 : Int32)) (t := 10) (n := 21) rfl c2 ?_
      refine i_rs 1 (cf' := (22, [some (.ref 0), some (.int l1), some (.int l2), none], [.int (-1 : Int32)], i_S X M)) rfl ?_
      obtain rfl := Option.some.inj h
      exact i_rret rfl rfl
def r_tune (l1 : Int32) (l2 : Int32) (M : I_M) : Option (Int32 × I_M) :=
  Option.bind (r_within (Int32.toInt64 l1) (0 : Int64) (5 : Int64) M) (fun q1 => (if q1.1 = (0 : Int32) then
      some ((-1 : Int32), q1.2)
    else
      Option.bind (r_within (Int32.toInt64 l2) (0 : Int64) (9999 : Int64) q1.2) (fun q3 => (if q3.1 = (0 : Int32) then
        some ((-1 : Int32), q3.2)
      else
        i_g l1 6 (some ((q3.2.1 66 (Int32.toNatClampNeg l1)), (i_wI q3.2 66 (Int32.toNatClampNeg l1) l2)))))))
theorem ok_r_tune {X : Nat × (Nat → Int32)} {d : Nat} {l1 : Int32} {l2 : Int32} {M : I_M} {r : (Int32 × I_M)} (hd : 2 ≤ d) (h : r_tune l1 l2 M = some r) : I_Ex d 236 [.ref 50, .int l1, .int l2] (i_S X M) (some (.int r.1)) (i_S X r.2) := by
  obtain ⟨d, rfl⟩ : ∃ d1, d = d1 + 1 := ⟨d - 1, by omega⟩
  unfold r_tune at h
  refine i_ex (e := i_r236) (lv := [some (.ref 50), some (.int l1), some (.int l2), none]) rfl (Nat.le_of_ble_eq_true rfl) rfl ?_
  show I_RnE (I_Ex d) i_c236 (0, [some (.ref 50), some (.int l1), some (.int l2), none], [], i_S X M) _ _
  refine i_rs 4 (cf' := (6, [some (.ref 50), some (.int l1), some (.int l2), none], [.long (5 : Int64), .long (0 : Int64), .long (Int32.toInt64 l1)], i_S X M)) rfl ?_
  obtain ⟨q1, hq1, h⟩ := i_bdE h
  refine i_rcall (k := 175) (as := [.long (Int32.toInt64 l1), .long (0 : Int64), .long (5 : Int64)]) (cf1 := (9, [some (.ref 50), some (.int l1), some (.int l2), none], [], i_S X M)) (cf' := (9, [some (.ref 50), some (.int l1), some (.int l2), none], [.int q1.1], i_S X q1.2)) rfl (ok_r_within (by omega) hq1) rfl ?_
  by_cases c2 : q1.1 = (0 : Int32)
  · replace h := (if_pos c2).symm.trans h
    refine i_rbT (c := q1.1 = (0 : Int32)) (t := 24) (n := 12) rfl c2 ?_
    refine i_rs 1 (cf' := (25, [some (.ref 50), some (.int l1), some (.int l2), none], [.int (-1 : Int32)], i_S X q1.2)) rfl ?_
    obtain rfl := Option.some.inj h
    exact i_rret rfl rfl
  · replace h := (if_neg c2).symm.trans h
    refine i_rbF (c := q1.1 = (0 : Int32)) (t := 24) (n := 12) rfl c2 ?_
    refine i_rs 4 (cf' := (18, [some (.ref 50), some (.int l1), some (.int l2), none], [.long (9999 : Int64), .long (0 : Int64), .long (Int32.toInt64 l2)], i_S X q1.2)) rfl ?_
    obtain ⟨q3, hq3, h⟩ := i_bdE h
    refine i_rcall (k := 175) (as := [.long (Int32.toInt64 l2), .long (0 : Int64), .long (9999 : Int64)]) (cf1 := (21, [some (.ref 50), some (.int l1), some (.int l2), none], [], i_S X q1.2)) (cf' := (21, [some (.ref 50), some (.int l1), some (.int l2), none], [.int q3.1], i_S X q3.2)) rfl (ok_r_within (by omega) hq3) rfl ?_
    by_cases c4 : q3.1 = (0 : Int32)
    · replace h := (if_pos c4).symm.trans h
      refine i_rbT (c := q3.1 = (0 : Int32)) (t := 24) (n := 26) rfl c4 ?_
      refine i_rs 1 (cf' := (25, [some (.ref 50), some (.int l1), some (.int l2), none], [.int (-1 : Int32)], i_S X q3.2)) rfl ?_
      obtain rfl := Option.some.inj h
      exact i_rret rfl rfl
    · replace h := (if_neg c4).symm.trans h
      refine i_rbF (c := q3.1 = (0 : Int32)) (t := 24) (n := 26) rfl c4 ?_
      refine i_rs 3 (cf' := (31, [some (.ref 50), some (.int l1), some (.int l2), none], [.int l1, .ref 66], i_S X q3.2)) rfl ?_
      obtain ⟨g5, h⟩ := i_gE h
      refine i_riald (n := 6) (cf' := (32, [some (.ref 50), some (.int l1), some (.int l2), none], [.int (q3.2.1 66 (Int32.toNatClampNeg l1))], i_S X q3.2)) rfl rfl (by decide) g5 rfl ?_
      refine i_rs 5 (cf' := (39, [some (.ref 50), some (.int l1), some (.int l2), some (.int (q3.2.1 66 (Int32.toNatClampNeg l1)))], [.int l2, .int l1, .ref 66], i_S X q3.2)) rfl ?_
      refine i_riast (n := 6) (cf' := (40, [some (.ref 50), some (.int l1), some (.int l2), some (.int (q3.2.1 66 (Int32.toNatClampNeg l1)))], [], i_S X (i_wI q3.2 66 (Int32.toNatClampNeg l1) l2))) rfl rfl (Or.inl rfl) g5 rfl ?_
      refine i_rs 1 (cf' := (41, [some (.ref 50), some (.int l1), some (.int l2), some (.int (q3.2.1 66 (Int32.toNatClampNeg l1)))], [.int (q3.2.1 66 (Int32.toNatClampNeg l1))], i_S X (i_wI q3.2 66 (Int32.toNatClampNeg l1) l2))) rfl ?_
      obtain rfl := Option.some.inj h
      exact i_rret rfl rfl
def b_Villages_differences_L9 (l1 : Int32) (l2 : Int32) : Nat → Int32 → Int32 → Int32 → I_M → Option (Int32 × I_M)
  | 0, _, _, _, _ => none
  | n + 1, l4, l5, l6, M =>
    (if l6 < (0 : Int32) then
        some (l4, M)
      else
        Option.bind (b_Shelves_get l1 (l2 + l6) M) (fun q2 => i_let (l4 + (i_abs ((Int64.toInt32 q2.1) - (i_rem l5 (10 : Int32))))) (fun x3 => (b_Villages_differences_L9 l1 l2 n) x3 (l5 / (10 : Int32)) (l6 + (-1 : Int32)) q2.2)))
theorem ok_b_Villages_differences_L9 {X : Nat × (Nat → Int32)} {d : Nat} {l1 : Int32} {l2 : Int32} (hd : 2 ≤ d + 1) : ∀ (n : Nat) (l4 : Int32) (l5 : Int32) (l6 : Int32) (M : I_M) (r : (Int32 × I_M)), b_Villages_differences_L9 l1 l2 n l4 l5 l6 M = some r → I_RnE (I_Ex d) i_c123 (9, [some (.ref 41), some (.int l1), some (.int l2), none, some (.int l4), some (.int l5), some (.int l6)], [], i_S X M) (some (.int r.1)) (i_S X r.2) := by
  intro n
  induction n with
  | zero => intro _ _ _ M r h; cases h
  | succ n hself =>
    intro l4 l5 l6 M r h
    rw [b_Villages_differences_L9] at h
    refine i_rs 1 (cf' := (11, [some (.ref 41), some (.int l1), some (.int l2), none, some (.int l4), some (.int l5), some (.int l6)], [.int l6], i_S X M)) rfl ?_
    by_cases c1 : l6 < (0 : Int32)
    · replace h := (if_pos c1).symm.trans h
      refine i_rbT (c := l6 < (0 : Int32)) (t := 51) (n := 14) rfl c1 ?_
      refine i_rs 1 (cf' := (53, [some (.ref 41), some (.int l1), some (.int l2), none, some (.int l4), some (.int l5), some (.int l6)], [.int l4], i_S X M)) rfl ?_
      obtain rfl := Option.some.inj h
      exact i_rret rfl rfl
    · replace h := (if_neg c1).symm.trans h
      refine i_rbF (c := l6 < (0 : Int32)) (t := 51) (n := 14) rfl c1 ?_
      refine i_rs 6 (cf' := (22, [some (.ref 41), some (.int l1), some (.int l2), none, some (.int l4), some (.int l5), some (.int l6)], [.int (l2 + l6), .int l1, .ref 41, .int l4], i_S X M)) rfl ?_
      obtain ⟨q2, hq2, h⟩ := i_bdE h
      refine i_rcall (k := 27) (as := [.ref 41, .int l1, .int (l2 + l6)]) (cf1 := (25, [some (.ref 41), some (.int l1), some (.int l2), none, some (.int l4), some (.int l5), some (.int l6)], [.int l4], i_S X M)) (cf' := (25, [some (.ref 41), some (.int l1), some (.int l2), none, some (.int l4), some (.int l5), some (.int l6)], [.long q2.1, .int l4], i_S X q2.2)) rfl (ok_b_Shelves_get (by omega) hq2) rfl ?_
      refine i_rs 3 (cf' := (30, [some (.ref 41), some (.int l1), some (.int l2), none, some (.int l4), some (.int l5), some (.int l6)], [.int (10 : Int32), .int l5, .int (Int64.toInt32 q2.1), .int l4], i_S X q2.2)) rfl ?_
      refine i_rrem (cf' := (31, [some (.ref 41), some (.int l1), some (.int l2), none, some (.int l4), some (.int l5), some (.int l6)], [.int (i_rem l5 (10 : Int32)), .int (Int64.toInt32 q2.1), .int l4], i_S X q2.2)) rfl (by decide) rfl ?_
      refine i_rs 3 (cf' := (36, [some (.ref 41), some (.int l1), some (.int l2), none, some (.int l4), some (.int l5), some (.int l6)], [.int (l4 + (i_abs ((Int64.toInt32 q2.1) - (i_rem l5 (10 : Int32)))))], i_S X q2.2)) rfl ?_
      obtain ⟨x3, ex3, h⟩ := i_letE h
      refine i_cfe (cf' := (36, [some (.ref 41), some (.int l1), some (.int l2), none, some (.int l4), some (.int l5), some (.int l6)], [.int x3], i_S X q2.2)) (by rw [ex3]) ?_
      refine i_rs 3 (cf' := (42, [some (.ref 41), some (.int l1), some (.int l2), none, some (.int x3), some (.int l5), some (.int l6)], [.int (10 : Int32), .int l5], i_S X q2.2)) rfl ?_
      refine i_rdiv (cf' := (43, [some (.ref 41), some (.int l1), some (.int l2), none, some (.int x3), some (.int l5), some (.int l6)], [.int (l5 / (10 : Int32))], i_S X q2.2)) rfl (by decide) rfl ?_
      refine i_rs 3 (cf' := (9, [some (.ref 41), some (.int l1), some (.int l2), none, some (.int x3), some (.int (l5 / (10 : Int32))), some (.int (l6 + (-1 : Int32)))], [], i_S X q2.2)) rfl ?_
      refine i_fg (lv' := [some (.ref 41), some (.int l1), some (.int l2), none, some (.int x3), some (.int (l5 / (10 : Int32))), some (.int (l6 + (-1 : Int32)))]) (And.intro rfl (And.intro rfl (And.intro rfl (And.intro rfl (And.intro rfl (And.intro rfl True.intro)))))) ?_
      exact hself x3 (l5 / (10 : Int32)) (l6 + (-1 : Int32)) q2.2 _ h
def b_Villages_differences (l1 : Int32) (l2 : Int32) (l3 : Int32) (M : I_M) : Option (Int32 × I_M) :=
  b_Villages_differences_L9 l1 l2 i_F (0 : Int32) l3 (3 : Int32) M
theorem ok_b_Villages_differences {X : Nat × (Nat → Int32)} {d : Nat} {l1 : Int32} {l2 : Int32} {l3 : Int32} {M : I_M} {r : (Int32 × I_M)} (hd : 2 ≤ d) (h : b_Villages_differences l1 l2 l3 M = some r) : I_Ex d 123 [.ref 41, .int l1, .int l2, .int l3] (i_S X M) (some (.int r.1)) (i_S X r.2) := by
  obtain ⟨d, rfl⟩ : ∃ d1, d = d1 + 1 := ⟨d - 1, by omega⟩
  unfold b_Villages_differences at h
  refine i_ex (e := i_r123) (lv := [some (.ref 41), some (.int l1), some (.int l2), some (.int l3), none, none, none]) rfl (Nat.le_of_ble_eq_true rfl) rfl ?_
  show I_RnE (I_Ex d) i_c123 (0, [some (.ref 41), some (.int l1), some (.int l2), some (.int l3), none, none, none], [], i_S X M) _ _
  refine i_rs 6 (cf' := (9, [some (.ref 41), some (.int l1), some (.int l2), some (.int l3), some (.int (0 : Int32)), some (.int l3), some (.int (3 : Int32))], [], i_S X M)) rfl ?_
  refine i_fg (lv' := [some (.ref 41), some (.int l1), some (.int l2), none, some (.int (0 : Int32)), some (.int l3), some (.int (3 : Int32))]) (And.intro rfl (And.intro rfl (And.intro rfl (And.intro rfl (And.intro rfl (And.intro rfl True.intro)))))) ?_
  refine ok_b_Villages_differences_L9 (by omega) i_F (0 : Int32) l3 (3 : Int32) M _ h
def b_Villages_findOwner_L23 (l2 : Int32) (l3 : Int32) (k77 : I_M → Option I_M) : Nat → Int32 → I_M → Option I_M
  | 0, _, _ => none
  | n + 1, l4, M =>
    i_g l2 6 ((if (M.1 43 (Int32.toNatClampNeg l2)) < (l4 + (4 : Int32)) then
        k77  M
      else
        i_g l3 6 (Option.bind (b_Villages_differences l2 l4 (M.1 37 (Int32.toNatClampNeg l3)) M) (fun q6 => (if q6.1 < (q6.2.1 36 2) then
          (b_Villages_findOwner_L23 l2 l3 k77 n) (l4 + (1 : Int32)) (i_wI (i_wI q6.2 36 1 l3) 36 2 q6.1)
        else
          (b_Villages_findOwner_L23 l2 l3 k77 n) (l4 + (1 : Int32)) q6.2)))))
theorem ok_b_Villages_findOwner_L23 {X : Nat × (Nat → Int32)} {d : Nat} {l2 : Int32} {l3 : Int32} {k77 : I_M → Option I_M} (hd : 3 ≤ d + 1) (hk77 : ∀ (M : I_M) (r : I_M), k77 M = some r → I_RnE (I_Ex d) i_c122 (77, [some (.ref 36), some (.ref 41), some (.int l2), some (.int l3), none, none], [], i_S X M) none (i_S X r)) : ∀ (n : Nat) (l4 : Int32) (M : I_M) (r : I_M), b_Villages_findOwner_L23 l2 l3 k77 n l4 M = some r → I_RnE (I_Ex d) i_c122 (23, [some (.ref 36), some (.ref 41), some (.int l2), some (.int l3), some (.int l4), none], [], i_S X M) none (i_S X r) := by
  intro n
  induction n with
  | zero => intro _ M r h; cases h
  | succ n hself =>
    intro l4 M r h
    rw [b_Villages_findOwner_L23] at h
    refine i_rs 6 (cf' := (32, [some (.ref 36), some (.ref 41), some (.int l2), some (.int l3), some (.int l4), none], [.int l2, .ref 43, .int (l4 + (4 : Int32))], i_S X M)) rfl ?_
    obtain ⟨g3, h⟩ := i_gE h
    refine i_riald (n := 6) (cf' := (33, [some (.ref 36), some (.ref 41), some (.int l2), some (.int l3), some (.int l4), none], [.int (M.1 43 (Int32.toNatClampNeg l2)), .int (l4 + (4 : Int32))], i_S X M)) rfl rfl (by decide) g3 rfl ?_
    by_cases c4 : (M.1 43 (Int32.toNatClampNeg l2)) < (l4 + (4 : Int32))
    · replace h := (if_pos c4).symm.trans h
      refine i_rbT (c := (M.1 43 (Int32.toNatClampNeg l2)) < (l4 + (4 : Int32))) (t := 77) (n := 36) rfl c4 ?_
      refine i_fg (lv' := [some (.ref 36), some (.ref 41), some (.int l2), some (.int l3), none, none]) (And.intro rfl (And.intro rfl (And.intro rfl (And.intro rfl True.intro)))) ?_
      exact hk77  M _ h
    · replace h := (if_neg c4).symm.trans h
      refine i_rbF (c := (M.1 43 (Int32.toNatClampNeg l2)) < (l4 + (4 : Int32))) (t := 77) (n := 36) rfl c4 ?_
      refine i_rs 6 (cf' := (45, [some (.ref 36), some (.ref 41), some (.int l2), some (.int l3), some (.int l4), none], [.int l3, .ref 37, .int l4, .int l2, .ref 41], i_S X M)) rfl ?_
      obtain ⟨g5, h⟩ := i_gE h
      refine i_riald (n := 6) (cf' := (46, [some (.ref 36), some (.ref 41), some (.int l2), some (.int l3), some (.int l4), none], [.int (M.1 37 (Int32.toNatClampNeg l3)), .int l4, .int l2, .ref 41], i_S X M)) rfl rfl (by decide) g5 rfl ?_
      obtain ⟨q6, hq6, h⟩ := i_bdE h
      refine i_rcall (k := 123) (as := [.ref 41, .int l2, .int l4, .int (M.1 37 (Int32.toNatClampNeg l3))]) (cf1 := (49, [some (.ref 36), some (.ref 41), some (.int l2), some (.int l3), some (.int l4), none], [], i_S X M)) (cf' := (49, [some (.ref 36), some (.ref 41), some (.int l2), some (.int l3), some (.int l4), none], [.int q6.1], i_S X q6.2)) rfl (ok_b_Villages_differences (by omega) hq6) rfl ?_
      refine i_rs 4 (cf' := (57, [some (.ref 36), some (.ref 41), some (.int l2), some (.int l3), some (.int l4), some (.int q6.1)], [.int (q6.2.1 36 2), .int q6.1], i_S X q6.2)) rfl ?_
      by_cases c7 : q6.1 < (q6.2.1 36 2)
      · replace h := (if_pos c7).symm.trans h
        refine i_rbT (c := q6.1 < (q6.2.1 36 2)) (t := 60) (n := 71) rfl c7 ?_
        refine i_rs 8 (cf' := (23, [some (.ref 36), some (.ref 41), some (.int l2), some (.int l3), some (.int (l4 + (1 : Int32))), some (.int q6.1)], [], i_S X (i_wI (i_wI q6.2 36 1 l3) 36 2 q6.1))) rfl ?_
        refine i_fg (lv' := [some (.ref 36), some (.ref 41), some (.int l2), some (.int l3), some (.int (l4 + (1 : Int32))), none]) (And.intro rfl (And.intro rfl (And.intro rfl (And.intro rfl (And.intro rfl True.intro))))) ?_
        exact hself (l4 + (1 : Int32)) (i_wI (i_wI q6.2 36 1 l3) 36 2 q6.1) _ h
      · replace h := (if_neg c7).symm.trans h
        refine i_rbF (c := q6.1 < (q6.2.1 36 2)) (t := 60) (n := 71) rfl c7 ?_
        refine i_rs 2 (cf' := (23, [some (.ref 36), some (.ref 41), some (.int l2), some (.int l3), some (.int (l4 + (1 : Int32))), some (.int q6.1)], [], i_S X q6.2)) rfl ?_
        refine i_fg (lv' := [some (.ref 36), some (.ref 41), some (.int l2), some (.int l3), some (.int (l4 + (1 : Int32))), none]) (And.intro rfl (And.intro rfl (And.intro rfl (And.intro rfl (And.intro rfl True.intro))))) ?_
        exact hself (l4 + (1 : Int32)) q6.2 _ h
def b_Villages_findOwner_L14 (l2 : Int32) : Nat → Int32 → I_M → Option I_M
  | 0, _, _ => none
  | n + 1, l3, M =>
    (if l3 < (6 : Int32) then
        b_Villages_findOwner_L23 l2 l3 (fun M2 =>
            (b_Villages_findOwner_L14 l2 n) (l3 + (1 : Int32)) M2) i_F (0 : Int32) M
      else
        some M)
theorem ok_b_Villages_findOwner_L14 {X : Nat × (Nat → Int32)} {d : Nat} {l2 : Int32} (hd : 3 ≤ d + 1) : ∀ (n : Nat) (l3 : Int32) (M : I_M) (r : I_M), b_Villages_findOwner_L14 l2 n l3 M = some r → I_RnE (I_Ex d) i_c122 (14, [some (.ref 36), some (.ref 41), some (.int l2), some (.int l3), none, none], [], i_S X M) none (i_S X r) := by
  intro n
  induction n with
  | zero => intro _ M r h; cases h
  | succ n hself =>
    intro l3 M r h
    rw [b_Villages_findOwner_L14] at h
    refine i_rs 2 (cf' := (17, [some (.ref 36), some (.ref 41), some (.int l2), some (.int l3), none, none], [.int (6 : Int32), .int l3], i_S X M)) rfl ?_
    by_cases c1 : l3 < (6 : Int32)
    · replace h := (if_pos c1).symm.trans h
      refine i_rbT (c := l3 < (6 : Int32)) (t := 20) (n := 83) rfl c1 ?_
      refine i_rs 2 (cf' := (23, [some (.ref 36), some (.ref 41), some (.int l2), some (.int l3), some (.int (0 : Int32)), none], [], i_S X M)) rfl ?_
      refine i_fg (lv' := [some (.ref 36), some (.ref 41), some (.int l2), some (.int l3), some (.int (0 : Int32)), none]) (And.intro rfl (And.intro rfl (And.intro rfl (And.intro rfl (And.intro rfl True.intro))))) ?_
      refine ok_b_Villages_findOwner_L23 (by omega) (fun M2 r h => ?_) i_F (0 : Int32) M _ h
      refine i_rs 2 (cf' := (14, [some (.ref 36), some (.ref 41), some (.int l2), some (.int (l3 + (1 : Int32))), none, none], [], i_S X M2)) rfl ?_
      refine i_fg (lv' := [some (.ref 36), some (.ref 41), some (.int l2), some (.int (l3 + (1 : Int32))), none, none]) (And.intro rfl (And.intro rfl (And.intro rfl (And.intro rfl True.intro)))) ?_
      exact hself (l3 + (1 : Int32)) M2 _ h
    · replace h := (if_neg c1).symm.trans h
      refine i_rbF (c := l3 < (6 : Int32)) (t := 20) (n := 83) rfl c1 ?_
      obtain rfl := Option.some.inj h
      exact i_rret rfl rfl
def b_Villages_findOwner (l2 : Int32) (M : I_M) : Option I_M :=
  b_Villages_findOwner_L14 l2 i_F (0 : Int32) (i_wI (i_wI M 36 1 (-2 : Int32)) 36 2 (2147483647 : Int32))
theorem ok_b_Villages_findOwner {X : Nat × (Nat → Int32)} {d : Nat} {l2 : Int32} {M : I_M} {r : I_M} (hd : 3 ≤ d) (h : b_Villages_findOwner l2 M = some r) : I_Ex d 122 [.ref 36, .ref 41, .int l2] (i_S X M) none (i_S X r) := by
  obtain ⟨d, rfl⟩ : ∃ d1, d = d1 + 1 := ⟨d - 1, by omega⟩
  unfold b_Villages_findOwner at h
  refine i_ex (e := i_r122) (lv := [some (.ref 36), some (.ref 41), some (.int l2), none, none, none]) rfl (Nat.le_of_ble_eq_true rfl) rfl ?_
  show I_RnE (I_Ex d) i_c122 (0, [some (.ref 36), some (.ref 41), some (.int l2), none, none, none], [], i_S X M) _ _
  refine i_rs 8 (cf' := (14, [some (.ref 36), some (.ref 41), some (.int l2), some (.int (0 : Int32)), none, none], [], i_S X (i_wI (i_wI M 36 1 (-2 : Int32)) 36 2 (2147483647 : Int32)))) rfl ?_
  refine i_fg (lv' := [some (.ref 36), some (.ref 41), some (.int l2), some (.int (0 : Int32)), none, none]) (And.intro rfl (And.intro rfl (And.intro rfl (And.intro rfl True.intro)))) ?_
  refine ok_b_Villages_findOwner_L14 (by omega) i_F (0 : Int32) (i_wI (i_wI M 36 1 (-2 : Int32)) 36 2 (2147483647 : Int32)) _ h
def b_whose (l1 : Int32) (l2 : Int32) (M : I_M) : Option (Int32 × I_M) :=
  Option.bind (b_Shelves_isShelf l1 M) (fun q1 => (if q1.1 = (0 : Int32) then
      some ((-1 : Int32), q1.2)
    else
      (if l2 < (0 : Int32) then
        some ((-1 : Int32), q1.2)
      else
        (if (1 : Int32) < l2 then
          some ((-1 : Int32), q1.2)
        else
          i_g l1 6 ((if (q1.2.1 42 (Int32.toNatClampNeg l1)) = (-1 : Int32) then
            some ((-11 : Int32), q1.2)
          else
            (if (q1.2.1 42 (Int32.toNatClampNeg l1)) = (0 : Int32) then
              (if (q1.2.1 43 (Int32.toNatClampNeg l1)) < (4 : Int32) then
                some ((-2 : Int32), q1.2)
              else
                Option.bind (b_Villages_findOwner l1 q1.2) (fun q9 => (if l2 = (0 : Int32) then
                  some ((q9.1 36 1), q9)
                else
                  some ((q9.1 36 2), q9))))
            else
              some ((-12 : Int32), q1.2))))))))
theorem ok_b_whose {X : Nat × (Nat → Int32)} {d : Nat} {l1 : Int32} {l2 : Int32} {M : I_M} {r : (Int32 × I_M)} (hd : 4 ≤ d) (h : b_whose l1 l2 M = some r) : I_Ex d 121 [.ref 0, .int l1, .int l2] (i_S X M) (some (.int r.1)) (i_S X r.2) := by
  obtain ⟨d, rfl⟩ : ∃ d1, d = d1 + 1 := ⟨d - 1, by omega⟩
  unfold b_whose at h
  refine i_ex (e := i_r121) (lv := [some (.ref 0), some (.int l1), some (.int l2)]) rfl (Nat.le_of_ble_eq_true rfl) rfl ?_
  show I_RnE (I_Ex d) i_c121 (0, [some (.ref 0), some (.int l1), some (.int l2)], [], i_S X M) _ _
  refine i_rs 3 (cf' := (5, [some (.ref 0), some (.int l1), some (.int l2)], [.int l1, .ref 41], i_S X M)) rfl ?_
  obtain ⟨q1, hq1, h⟩ := i_bdE h
  refine i_rcall (k := 24) (as := [.ref 41, .int l1]) (cf1 := (8, [some (.ref 0), some (.int l1), some (.int l2)], [], i_S X M)) (cf' := (8, [some (.ref 0), some (.int l1), some (.int l2)], [.int q1.1], i_S X q1.2)) rfl (ok_b_Shelves_isShelf (by omega) hq1) rfl ?_
  by_cases c2 : q1.1 = (0 : Int32)
  · replace h := (if_pos c2).symm.trans h
    refine i_rbT (c := q1.1 = (0 : Int32)) (t := 20) (n := 11) rfl c2 ?_
    refine i_rs 1 (cf' := (21, [some (.ref 0), some (.int l1), some (.int l2)], [.int (-1 : Int32)], i_S X q1.2)) rfl ?_
    obtain rfl := Option.some.inj h
    exact i_rret rfl rfl
  · replace h := (if_neg c2).symm.trans h
    refine i_rbF (c := q1.1 = (0 : Int32)) (t := 20) (n := 11) rfl c2 ?_
    refine i_rs 1 (cf' := (12, [some (.ref 0), some (.int l1), some (.int l2)], [.int l2], i_S X q1.2)) rfl ?_
    by_cases c3 : l2 < (0 : Int32)
    · replace h := (if_pos c3).symm.trans h
      refine i_rbT (c := l2 < (0 : Int32)) (t := 20) (n := 15) rfl c3 ?_
      refine i_rs 1 (cf' := (21, [some (.ref 0), some (.int l1), some (.int l2)], [.int (-1 : Int32)], i_S X q1.2)) rfl ?_
      obtain rfl := Option.some.inj h
      exact i_rret rfl rfl
    · replace h := (if_neg c3).symm.trans h
      refine i_rbF (c := l2 < (0 : Int32)) (t := 20) (n := 15) rfl c3 ?_
      refine i_rs 2 (cf' := (17, [some (.ref 0), some (.int l1), some (.int l2)], [.int (1 : Int32), .int l2], i_S X q1.2)) rfl ?_
      by_cases c4 : (1 : Int32) < l2
      · replace h := (if_pos c4).symm.trans h
        refine i_rbT (c := (1 : Int32) < l2) (t := 20) (n := 22) rfl c4 ?_
        refine i_rs 1 (cf' := (21, [some (.ref 0), some (.int l1), some (.int l2)], [.int (-1 : Int32)], i_S X q1.2)) rfl ?_
        obtain rfl := Option.some.inj h
        exact i_rret rfl rfl
      · replace h := (if_neg c4).symm.trans h
        refine i_rbF (c := (1 : Int32) < l2) (t := 20) (n := 22) rfl c4 ?_
        refine i_rs 4 (cf' := (30, [some (.ref 0), some (.int l1), some (.int l2)], [.int l1, .ref 42], i_S X q1.2)) rfl ?_
        obtain ⟨g5, h⟩ := i_gE h
        refine i_riald (n := 6) (cf' := (31, [some (.ref 0), some (.int l1), some (.int l2)], [.int (q1.2.1 42 (Int32.toNatClampNeg l1))], i_S X q1.2)) rfl rfl (by decide) g5 rfl ?_
        refine i_rs 1 (cf' := (32, [some (.ref 0), some (.int l1), some (.int l2)], [.int (-1 : Int32), .int (q1.2.1 42 (Int32.toNatClampNeg l1))], i_S X q1.2)) rfl ?_
        by_cases c6 : (q1.2.1 42 (Int32.toNatClampNeg l1)) = (-1 : Int32)
        · replace h := (if_pos c6).symm.trans h
          refine i_rbT (c := (q1.2.1 42 (Int32.toNatClampNeg l1)) = (-1 : Int32)) (t := 35) (n := 38) rfl c6 ?_
          refine i_rs 1 (cf' := (37, [some (.ref 0), some (.int l1), some (.int l2)], [.int (-11 : Int32)], i_S X q1.2)) rfl ?_
          obtain rfl := Option.some.inj h
          exact i_rret rfl rfl
        · replace h := (if_neg c6).symm.trans h
          refine i_rbF (c := (q1.2.1 42 (Int32.toNatClampNeg l1)) = (-1 : Int32)) (t := 35) (n := 38) rfl c6 ?_
          refine i_rs 4 (cf' := (46, [some (.ref 0), some (.int l1), some (.int l2)], [.int l1, .ref 42], i_S X q1.2)) rfl ?_
          refine i_riald (n := 6) (cf' := (47, [some (.ref 0), some (.int l1), some (.int l2)], [.int (q1.2.1 42 (Int32.toNatClampNeg l1))], i_S X q1.2)) rfl rfl (by decide) g5 rfl ?_
          by_cases c7 : (q1.2.1 42 (Int32.toNatClampNeg l1)) = (0 : Int32)
          · replace h := (if_pos c7).symm.trans h
            refine i_rbT (c := (q1.2.1 42 (Int32.toNatClampNeg l1)) = (0 : Int32)) (t := 53) (n := 50) rfl c7 ?_
            refine i_rs 4 (cf' := (61, [some (.ref 0), some (.int l1), some (.int l2)], [.int l1, .ref 43], i_S X q1.2)) rfl ?_
            refine i_riald (n := 6) (cf' := (62, [some (.ref 0), some (.int l1), some (.int l2)], [.int (q1.2.1 43 (Int32.toNatClampNeg l1))], i_S X q1.2)) rfl rfl (by decide) g5 rfl ?_
            refine i_rs 1 (cf' := (63, [some (.ref 0), some (.int l1), some (.int l2)], [.int (4 : Int32), .int (q1.2.1 43 (Int32.toNatClampNeg l1))], i_S X q1.2)) rfl ?_
            by_cases c8 : (q1.2.1 43 (Int32.toNatClampNeg l1)) < (4 : Int32)
            · replace h := (if_pos c8).symm.trans h
              refine i_rbT (c := (q1.2.1 43 (Int32.toNatClampNeg l1)) < (4 : Int32)) (t := 66) (n := 69) rfl c8 ?_
              refine i_rs 1 (cf' := (68, [some (.ref 0), some (.int l1), some (.int l2)], [.int (-2 : Int32)], i_S X q1.2)) rfl ?_
              obtain rfl := Option.some.inj h
              exact i_rret rfl rfl
            · replace h := (if_neg c8).symm.trans h
              refine i_rbF (c := (q1.2.1 43 (Int32.toNatClampNeg l1)) < (4 : Int32)) (t := 66) (n := 69) rfl c8 ?_
              refine i_rs 5 (cf' := (78, [some (.ref 0), some (.int l1), some (.int l2)], [.int l1, .ref 41, .ref 36], i_S X q1.2)) rfl ?_
              obtain ⟨q9, hq9, h⟩ := i_bdE h
              refine i_rcall (k := 122) (as := [.ref 36, .ref 41, .int l1]) (cf1 := (81, [some (.ref 0), some (.int l1), some (.int l2)], [], i_S X q1.2)) (cf' := (81, [some (.ref 0), some (.int l1), some (.int l2)], [], i_S X q9)) rfl (ok_b_Villages_findOwner (by omega) hq9) rfl ?_
              refine i_rs 1 (cf' := (82, [some (.ref 0), some (.int l1), some (.int l2)], [.int l2], i_S X q9)) rfl ?_
              by_cases c10 : l2 = (0 : Int32)
              · replace h := (if_pos c10).symm.trans h
                refine i_rbT (c := l2 = (0 : Int32)) (t := 85) (n := 95) rfl c10 ?_
                refine i_rs 4 (cf' := (102, [some (.ref 0), some (.int l1), some (.int l2)], [.int (q9.1 36 1)], i_S X q9)) rfl ?_
                obtain rfl := Option.some.inj h
                exact i_rret rfl rfl
              · replace h := (if_neg c10).symm.trans h
                refine i_rbF (c := l2 = (0 : Int32)) (t := 85) (n := 95) rfl c10 ?_
                refine i_rs 3 (cf' := (102, [some (.ref 0), some (.int l1), some (.int l2)], [.int (q9.1 36 2)], i_S X q9)) rfl ?_
                obtain rfl := Option.some.inj h
                exact i_rret rfl rfl
          · replace h := (if_neg c7).symm.trans h
            refine i_rbF (c := (q1.2.1 42 (Int32.toNatClampNeg l1)) = (0 : Int32)) (t := 53) (n := 50) rfl c7 ?_
            refine i_rs 1 (cf' := (52, [some (.ref 0), some (.int l1), some (.int l2)], [.int (-12 : Int32)], i_S X q1.2)) rfl ?_
            obtain rfl := Option.some.inj h
            exact i_rret rfl rfl
def r_differs_L9 (l1 : Int32) (l2 : Int32) : Nat → Int64 → Int32 → Int32 → I_M → Option (Int64 × I_M)
  | 0, _, _, _, _ => none
  | n + 1, l4, l6, l7, M =>
    (if l7 < (0 : Int32) then
        some (l4, M)
      else
        i_g ((((60 : Int32) * l1) + l2) + l7) 360 (i_let ((M.2 72 (Int32.toNatClampNeg ((((60 : Int32) * l1) + l2) + l7))) - (Int32.toInt64 (i_rem l6 (10 : Int32)))) (fun x3 => (if (lg_cmp x3 (0 : Int64)) < (0 : Int32) then
          (r_differs_L9 l1 l2 n) (l4 + (-x3)) (l6 / (10 : Int32)) (l7 + (-1 : Int32)) M
        else
          (r_differs_L9 l1 l2 n) (l4 + x3) (l6 / (10 : Int32)) (l7 + (-1 : Int32)) M))))
theorem ok_r_differs_L9 {X : Nat × (Nat → Int32)} {d : Nat} {l1 : Int32} {l2 : Int32} (hd : 1 ≤ d + 1) : ∀ (n : Nat) (l4 : Int64) (l6 : Int32) (l7 : Int32) (M : I_M) (r : (Int64 × I_M)), r_differs_L9 l1 l2 n l4 l6 l7 M = some r → I_RnE (I_Ex d) i_c238 (9, [some (.ref 50), some (.int l1), some (.int l2), none, some (.long l4), none, some (.int l6), some (.int l7), none, none], [], i_S X M) (some (.long r.1)) (i_S X r.2) := by
  intro n
  induction n with
  | zero => intro _ _ _ M r h; cases h
  | succ n hself =>
    intro l4 l6 l7 M r h
    rw [r_differs_L9] at h
    refine i_rs 1 (cf' := (11, [some (.ref 50), some (.int l1), some (.int l2), none, some (.long l4), none, some (.int l6), some (.int l7), none, none], [.int l7], i_S X M)) rfl ?_
    by_cases c1 : l7 < (0 : Int32)
    · replace h := (if_pos c1).symm.trans h
      refine i_rbT (c := l7 < (0 : Int32)) (t := 70) (n := 14) rfl c1 ?_
      refine i_rs 1 (cf' := (72, [some (.ref 50), some (.int l1), some (.int l2), none, some (.long l4), none, some (.int l6), some (.int l7), none, none], [.long l4], i_S X M)) rfl ?_
      obtain rfl := Option.some.inj h
      exact i_rret rfl rfl
    · replace h := (if_neg c1).symm.trans h
      refine i_rbF (c := l7 < (0 : Int32)) (t := 70) (n := 14) rfl c1 ?_
      refine i_rs 9 (cf' := (27, [some (.ref 50), some (.int l1), some (.int l2), none, some (.long l4), none, some (.int l6), some (.int l7), none, none], [.int ((((60 : Int32) * l1) + l2) + l7), .ref 72], i_S X M)) rfl ?_
      obtain ⟨g2, h⟩ := i_gE h
      refine i_rlald (n := 360) (cf' := (28, [some (.ref 50), some (.int l1), some (.int l2), none, some (.long l4), none, some (.int l6), some (.int l7), none, none], [.long (M.2 72 (Int32.toNatClampNeg ((((60 : Int32) * l1) + l2) + l7)))], i_S X M)) rfl rfl g2 rfl ?_
      refine i_rs 2 (cf' := (32, [some (.ref 50), some (.int l1), some (.int l2), none, some (.long l4), none, some (.int l6), some (.int l7), none, none], [.int (10 : Int32), .int l6, .long (M.2 72 (Int32.toNatClampNeg ((((60 : Int32) * l1) + l2) + l7)))], i_S X M)) rfl ?_
      refine i_rrem (cf' := (33, [some (.ref 50), some (.int l1), some (.int l2), none, some (.long l4), none, some (.int l6), some (.int l7), none, none], [.int (i_rem l6 (10 : Int32)), .long (M.2 72 (Int32.toNatClampNeg ((((60 : Int32) * l1) + l2) + l7)))], i_S X M)) rfl (by decide) rfl ?_
      refine i_rs 2 (cf' := (35, [some (.ref 50), some (.int l1), some (.int l2), none, some (.long l4), none, some (.int l6), some (.int l7), none, none], [.long ((M.2 72 (Int32.toNatClampNeg ((((60 : Int32) * l1) + l2) + l7))) - (Int32.toInt64 (i_rem l6 (10 : Int32))))], i_S X M)) rfl ?_
      obtain ⟨x3, ex3, h⟩ := i_letE h
      refine i_cfe (cf' := (35, [some (.ref 50), some (.int l1), some (.int l2), none, some (.long l4), none, some (.int l6), some (.int l7), none, none], [.long x3], i_S X M)) (by rw [ex3]) ?_
      refine i_rs 5 (cf' := (43, [some (.ref 50), some (.int l1), some (.int l2), none, some (.long l4), none, some (.int l6), some (.int l7), some (.long x3), none], [.int (lg_cmp x3 (0 : Int64)), .long l4], i_S X M)) rfl ?_
      by_cases c4 : (lg_cmp x3 (0 : Int64)) < (0 : Int32)
      · replace h := (if_pos c4).symm.trans h
        refine i_rbT (c := (lg_cmp x3 (0 : Int64)) < (0 : Int32)) (t := 46) (n := 52) rfl c4 ?_
        refine i_rs 7 (cf' := (61, [some (.ref 50), some (.int l1), some (.int l2), none, some (.long (l4 + (-x3))), none, some (.int l6), some (.int l7), some (.long x3), none], [.int (10 : Int32), .int l6], i_S X M)) rfl ?_
        refine i_rdiv (cf' := (62, [some (.ref 50), some (.int l1), some (.int l2), none, some (.long (l4 + (-x3))), none, some (.int l6), some (.int l7), some (.long x3), none], [.int (l6 / (10 : Int32))], i_S X M)) rfl (by decide) rfl ?_
        refine i_rs 3 (cf' := (9, [some (.ref 50), some (.int l1), some (.int l2), none, some (.long (l4 + (-x3))), none, some (.int (l6 / (10 : Int32))), some (.int (l7 + (-1 : Int32))), some (.long x3), none], [], i_S X M)) rfl ?_
        refine i_fg (lv' := [some (.ref 50), some (.int l1), some (.int l2), none, some (.long (l4 + (-x3))), none, some (.int (l6 / (10 : Int32))), some (.int (l7 + (-1 : Int32))), none, none]) (And.intro rfl (And.intro rfl (And.intro rfl (And.intro rfl (And.intro rfl (And.intro rfl True.intro)))))) ?_
        exact hself (l4 + (-x3)) (l6 / (10 : Int32)) (l7 + (-1 : Int32)) M _ h
      · replace h := (if_neg c4).symm.trans h
        refine i_rbF (c := (lg_cmp x3 (0 : Int64)) < (0 : Int32)) (t := 46) (n := 52) rfl c4 ?_
        refine i_rs 5 (cf' := (61, [some (.ref 50), some (.int l1), some (.int l2), none, some (.long (l4 + x3)), none, some (.int l6), some (.int l7), some (.long x3), none], [.int (10 : Int32), .int l6], i_S X M)) rfl ?_
        refine i_rdiv (cf' := (62, [some (.ref 50), some (.int l1), some (.int l2), none, some (.long (l4 + x3)), none, some (.int l6), some (.int l7), some (.long x3), none], [.int (l6 / (10 : Int32))], i_S X M)) rfl (by decide) rfl ?_
        refine i_rs 3 (cf' := (9, [some (.ref 50), some (.int l1), some (.int l2), none, some (.long (l4 + x3)), none, some (.int (l6 / (10 : Int32))), some (.int (l7 + (-1 : Int32))), some (.long x3), none], [], i_S X M)) rfl ?_
        refine i_fg (lv' := [some (.ref 50), some (.int l1), some (.int l2), none, some (.long (l4 + x3)), none, some (.int (l6 / (10 : Int32))), some (.int (l7 + (-1 : Int32))), none, none]) (And.intro rfl (And.intro rfl (And.intro rfl (And.intro rfl (And.intro rfl (And.intro rfl True.intro)))))) ?_
        exact hself (l4 + x3) (l6 / (10 : Int32)) (l7 + (-1 : Int32)) M _ h
def r_differs (l1 : Int32) (l2 : Int32) (l3 : Int32) (M : I_M) : Option (Int64 × I_M) :=
  r_differs_L9 l1 l2 i_F (0 : Int64) l3 (3 : Int32) M
theorem ok_r_differs {X : Nat × (Nat → Int32)} {d : Nat} {l1 : Int32} {l2 : Int32} {l3 : Int32} {M : I_M} {r : (Int64 × I_M)} (hd : 1 ≤ d) (h : r_differs l1 l2 l3 M = some r) : I_Ex d 238 [.ref 50, .int l1, .int l2, .int l3] (i_S X M) (some (.long r.1)) (i_S X r.2) := by
  obtain ⟨d, rfl⟩ : ∃ d1, d = d1 + 1 := ⟨d - 1, by omega⟩
  unfold r_differs at h
  refine i_ex (e := i_r238) (lv := [some (.ref 50), some (.int l1), some (.int l2), some (.int l3), none, none, none, none, none, none]) rfl (Nat.le_of_ble_eq_true rfl) rfl ?_
  show I_RnE (I_Ex d) i_c238 (0, [some (.ref 50), some (.int l1), some (.int l2), some (.int l3), none, none, none, none, none, none], [], i_S X M) _ _
  refine i_rs 6 (cf' := (9, [some (.ref 50), some (.int l1), some (.int l2), some (.int l3), some (.long (0 : Int64)), none, some (.int l3), some (.int (3 : Int32)), none, none], [], i_S X M)) rfl ?_
  refine i_fg (lv' := [some (.ref 50), some (.int l1), some (.int l2), none, some (.long (0 : Int64)), none, some (.int l3), some (.int (3 : Int32)), none, none]) (And.intro rfl (And.intro rfl (And.intro rfl (And.intro rfl (And.intro rfl (And.intro rfl True.intro)))))) ?_
  refine ok_r_differs_L9 (by omega) i_F (0 : Int64) l3 (3 : Int32) M _ h
def r_whose_L66 (l1 : Int32) (l2 : Int32) (l6 : Int32) (k120 : Int32 → Int64 → I_M → Option (Int32 × I_M)) : Nat → Int32 → Int64 → Int32 → I_M → Option (Int32 × I_M)
  | 0, _, _, _, _ => none
  | n + 1, l3, l4, l7, M =>
    i_g l1 6 ((if (M.1 71 (Int32.toNatClampNeg l1)) < (l7 + (4 : Int32)) then
        k120 l3 l4 M
      else
        i_g l6 6 (Option.bind (r_differs l1 l7 (M.1 66 (Int32.toNatClampNeg l6)) M) (fun q6 => (if l3 < (0 : Int32) then
          (r_whose_L66 l1 l2 l6 k120 n) l6 q6.1 (l7 + (1 : Int32)) q6.2
        else
          (if (lg_cmp q6.1 l4) < (0 : Int32) then
            (r_whose_L66 l1 l2 l6 k120 n) l6 q6.1 (l7 + (1 : Int32)) q6.2
          else
            (r_whose_L66 l1 l2 l6 k120 n) l3 l4 (l7 + (1 : Int32)) q6.2))))))
theorem ok_r_whose_L66 {X : Nat × (Nat → Int32)} {d : Nat} {l1 : Int32} {l2 : Int32} {l6 : Int32} {k120 : Int32 → Int64 → I_M → Option (Int32 × I_M)} (hd : 3 ≤ d + 1) (hk120 : ∀ (l3 : Int32) (l4 : Int64) (M : I_M) (r : (Int32 × I_M)), k120 l3 l4 M = some r → I_RnE (I_Ex d) i_c237 (120, [some (.ref 50), some (.int l1), some (.int l2), some (.int l3), some (.long l4), none, some (.int l6), none, none, none], [], i_S X M) (some (.int r.1)) (i_S X r.2)) : ∀ (n : Nat) (l3 : Int32) (l4 : Int64) (l7 : Int32) (M : I_M) (r : (Int32 × I_M)), r_whose_L66 l1 l2 l6 k120 n l3 l4 l7 M = some r → I_RnE (I_Ex d) i_c237 (66, [some (.ref 50), some (.int l1), some (.int l2), some (.int l3), some (.long l4), none, some (.int l6), some (.int l7), none, none], [], i_S X M) (some (.int r.1)) (i_S X r.2) := by
  intro n
  induction n with
  | zero => intro _ _ _ M r h; cases h
  | succ n hself =>
    intro l3 l4 l7 M r h
    rw [r_whose_L66] at h
    refine i_rs 6 (cf' := (75, [some (.ref 50), some (.int l1), some (.int l2), some (.int l3), some (.long l4), none, some (.int l6), some (.int l7), none, none], [.int l1, .ref 71, .int (l7 + (4 : Int32))], i_S X M)) rfl ?_
    obtain ⟨g3, h⟩ := i_gE h
    refine i_riald (n := 6) (cf' := (76, [some (.ref 50), some (.int l1), some (.int l2), some (.int l3), some (.long l4), none, some (.int l6), some (.int l7), none, none], [.int (M.1 71 (Int32.toNatClampNeg l1)), .int (l7 + (4 : Int32))], i_S X M)) rfl rfl (by decide) g3 rfl ?_
    by_cases c4 : (M.1 71 (Int32.toNatClampNeg l1)) < (l7 + (4 : Int32))
    · replace h := (if_pos c4).symm.trans h
      refine i_rbT (c := (M.1 71 (Int32.toNatClampNeg l1)) < (l7 + (4 : Int32))) (t := 120) (n := 79) rfl c4 ?_
      refine i_fg (lv' := [some (.ref 50), some (.int l1), some (.int l2), some (.int l3), some (.long l4), none, some (.int l6), none, none, none]) (And.intro rfl (And.intro rfl (And.intro rfl (And.intro rfl (And.intro rfl (And.intro rfl True.intro)))))) ?_
      exact hk120 l3 l4 M _ h
    · replace h := (if_neg c4).symm.trans h
      refine i_rbF (c := (M.1 71 (Int32.toNatClampNeg l1)) < (l7 + (4 : Int32))) (t := 120) (n := 79) rfl c4 ?_
      refine i_rs 6 (cf' := (89, [some (.ref 50), some (.int l1), some (.int l2), some (.int l3), some (.long l4), none, some (.int l6), some (.int l7), none, none], [.int l6, .ref 66, .int l7, .int l1, .ref 50], i_S X M)) rfl ?_
      obtain ⟨g5, h⟩ := i_gE h
      refine i_riald (n := 6) (cf' := (90, [some (.ref 50), some (.int l1), some (.int l2), some (.int l3), some (.long l4), none, some (.int l6), some (.int l7), none, none], [.int (M.1 66 (Int32.toNatClampNeg l6)), .int l7, .int l1, .ref 50], i_S X M)) rfl rfl (by decide) g5 rfl ?_
      obtain ⟨q6, hq6, h⟩ := i_bdE h
      refine i_rcall (k := 238) (as := [.ref 50, .int l1, .int l7, .int (M.1 66 (Int32.toNatClampNeg l6))]) (cf1 := (93, [some (.ref 50), some (.int l1), some (.int l2), some (.int l3), some (.long l4), none, some (.int l6), some (.int l7), none, none], [], i_S X M)) (cf' := (93, [some (.ref 50), some (.int l1), some (.int l2), some (.int l3), some (.long l4), none, some (.int l6), some (.int l7), none, none], [.long q6.1], i_S X q6.2)) rfl (ok_r_differs (by omega) hq6) rfl ?_
      refine i_rs 2 (cf' := (96, [some (.ref 50), some (.int l1), some (.int l2), some (.int l3), some (.long l4), none, some (.int l6), some (.int l7), some (.long q6.1), none], [.int l3], i_S X q6.2)) rfl ?_
      by_cases c7 : l3 < (0 : Int32)
      · replace h := (if_pos c7).symm.trans h
        refine i_rbT (c := l3 < (0 : Int32)) (t := 107) (n := 99) rfl c7 ?_
        refine i_rs 6 (cf' := (66, [some (.ref 50), some (.int l1), some (.int l2), some (.int l6), some (.long q6.1), none, some (.int l6), some (.int (l7 + (1 : Int32))), some (.long q6.1), none], [], i_S X q6.2)) rfl ?_
        refine i_fg (lv' := [some (.ref 50), some (.int l1), some (.int l2), some (.int l6), some (.long q6.1), none, some (.int l6), some (.int (l7 + (1 : Int32))), none, none]) (And.intro rfl (And.intro rfl (And.intro rfl (And.intro rfl (And.intro rfl (And.intro rfl (And.intro rfl True.intro))))))) ?_
        exact hself l6 q6.1 (l7 + (1 : Int32)) q6.2 _ h
      · replace h := (if_neg c7).symm.trans h
        refine i_rbF (c := l3 < (0 : Int32)) (t := 107) (n := 99) rfl c7 ?_
        refine i_rs 3 (cf' := (104, [some (.ref 50), some (.int l1), some (.int l2), some (.int l3), some (.long l4), none, some (.int l6), some (.int l7), some (.long q6.1), none], [.int (lg_cmp q6.1 l4)], i_S X q6.2)) rfl ?_
        by_cases c8 : (lg_cmp q6.1 l4) < (0 : Int32)
        · replace h := (if_pos c8).symm.trans h
          refine i_rbT (c := (lg_cmp q6.1 l4) < (0 : Int32)) (t := 107) (n := 114) rfl c8 ?_
          refine i_rs 6 (cf' := (66, [some (.ref 50), some (.int l1), some (.int l2), some (.int l6), some (.long q6.1), none, some (.int l6), some (.int (l7 + (1 : Int32))), some (.long q6.1), none], [], i_S X q6.2)) rfl ?_
          refine i_fg (lv' := [some (.ref 50), some (.int l1), some (.int l2), some (.int l6), some (.long q6.1), none, some (.int l6), some (.int (l7 + (1 : Int32))), none, none]) (And.intro rfl (And.intro rfl (And.intro rfl (And.intro rfl (And.intro rfl (And.intro rfl (And.intro rfl True.intro))))))) ?_
          exact hself l6 q6.1 (l7 + (1 : Int32)) q6.2 _ h
        · replace h := (if_neg c8).symm.trans h
          refine i_rbF (c := (lg_cmp q6.1 l4) < (0 : Int32)) (t := 107) (n := 114) rfl c8 ?_
          refine i_rs 2 (cf' := (66, [some (.ref 50), some (.int l1), some (.int l2), some (.int l3), some (.long l4), none, some (.int l6), some (.int (l7 + (1 : Int32))), some (.long q6.1), none], [], i_S X q6.2)) rfl ?_
          refine i_fg (lv' := [some (.ref 50), some (.int l1), some (.int l2), some (.int l3), some (.long l4), none, some (.int l6), some (.int (l7 + (1 : Int32))), none, none]) (And.intro rfl (And.intro rfl (And.intro rfl (And.intro rfl (And.intro rfl (And.intro rfl (And.intro rfl True.intro))))))) ?_
          exact hself l3 l4 (l7 + (1 : Int32)) q6.2 _ h
def r_whose_L56 (l1 : Int32) (l2 : Int32) (k126 : Int32 → Int64 → I_M → Option (Int32 × I_M)) : Nat → Int32 → Int64 → Int32 → I_M → Option (Int32 × I_M)
  | 0, _, _, _, _ => none
  | n + 1, l3, l4, l6, M =>
    (if l6 < (6 : Int32) then
        r_whose_L66 l1 l2 l6 (fun l3_2 l4_2 M2 =>
            (r_whose_L56 l1 l2 k126 n) l3_2 l4_2 (l6 + (1 : Int32)) M2) i_F l3 l4 (0 : Int32) M
      else
        k126 l3 l4 M)
theorem ok_r_whose_L56 {X : Nat × (Nat → Int32)} {d : Nat} {l1 : Int32} {l2 : Int32} {k126 : Int32 → Int64 → I_M → Option (Int32 × I_M)} (hd : 3 ≤ d + 1) (hk126 : ∀ (l3 : Int32) (l4 : Int64) (M : I_M) (r : (Int32 × I_M)), k126 l3 l4 M = some r → I_RnE (I_Ex d) i_c237 (126, [none, none, some (.int l2), some (.int l3), some (.long l4), none, none, none, none, none], [], i_S X M) (some (.int r.1)) (i_S X r.2)) : ∀ (n : Nat) (l3 : Int32) (l4 : Int64) (l6 : Int32) (M : I_M) (r : (Int32 × I_M)), r_whose_L56 l1 l2 k126 n l3 l4 l6 M = some r → I_RnE (I_Ex d) i_c237 (56, [some (.ref 50), some (.int l1), some (.int l2), some (.int l3), some (.long l4), none, some (.int l6), none, none, none], [], i_S X M) (some (.int r.1)) (i_S X r.2) := by
  intro n
  induction n with
  | zero => intro _ _ _ M r h; cases h
  | succ n hself =>
    intro l3 l4 l6 M r h
    rw [r_whose_L56] at h
    refine i_rs 2 (cf' := (60, [some (.ref 50), some (.int l1), some (.int l2), some (.int l3), some (.long l4), none, some (.int l6), none, none, none], [.int (6 : Int32), .int l6], i_S X M)) rfl ?_
    by_cases c1 : l6 < (6 : Int32)
    · replace h := (if_pos c1).symm.trans h
      refine i_rbT (c := l6 < (6 : Int32)) (t := 63) (n := 126) rfl c1 ?_
      refine i_rs 2 (cf' := (66, [some (.ref 50), some (.int l1), some (.int l2), some (.int l3), some (.long l4), none, some (.int l6), some (.int (0 : Int32)), none, none], [], i_S X M)) rfl ?_
      refine i_fg (lv' := [some (.ref 50), some (.int l1), some (.int l2), some (.int l3), some (.long l4), none, some (.int l6), some (.int (0 : Int32)), none, none]) (And.intro rfl (And.intro rfl (And.intro rfl (And.intro rfl (And.intro rfl (And.intro rfl (And.intro rfl True.intro))))))) ?_
      refine ok_r_whose_L66 (by omega) (fun l3_2 l4_2 M2 r h => ?_) i_F l3 l4 (0 : Int32) M _ h
      refine i_rs 2 (cf' := (56, [some (.ref 50), some (.int l1), some (.int l2), some (.int l3_2), some (.long l4_2), none, some (.int (l6 + (1 : Int32))), none, none, none], [], i_S X M2)) rfl ?_
      refine i_fg (lv' := [some (.ref 50), some (.int l1), some (.int l2), some (.int l3_2), some (.long l4_2), none, some (.int (l6 + (1 : Int32))), none, none, none]) (And.intro rfl (And.intro rfl (And.intro rfl (And.intro rfl (And.intro rfl (And.intro rfl True.intro)))))) ?_
      exact hself l3_2 l4_2 (l6 + (1 : Int32)) M2 _ h
    · replace h := (if_neg c1).symm.trans h
      refine i_rbF (c := l6 < (6 : Int32)) (t := 63) (n := 126) rfl c1 ?_
      refine i_fg (lv' := [none, none, some (.int l2), some (.int l3), some (.long l4), none, none, none, none, none]) (And.intro rfl (And.intro rfl (And.intro rfl True.intro))) ?_
      exact hk126 l3 l4 M _ h
def r_whose (l1 : Int32) (l2 : Int32) (M : I_M) : Option (Int32 × I_M) :=
  Option.bind (r_isShelf l1 M) (fun q9 => (if q9.1 = (0 : Int32) then
      some ((-1 : Int32), q9.2)
    else
      Option.bind (r_within (Int32.toInt64 l2) (0 : Int64) (1 : Int64) q9.2) (fun q11 => (if q11.1 = (0 : Int32) then
        some ((-1 : Int32), q11.2)
      else
        i_g l1 6 ((if (q11.2.1 70 (Int32.toNatClampNeg l1)) < (0 : Int32) then
          some ((-11 : Int32), q11.2)
        else
          (if (q11.2.1 70 (Int32.toNatClampNeg l1)) = (50 : Int32) then
            r_whose_L56 l1 l2 (fun l3_16 l4_16 M16 =>
                (if l2 = (0 : Int32) then
                  some (l3_16, M16)
                else
                  some ((Int64.toInt32 l4_16), M16))) i_F (-2 : Int32) (-2 : Int64) (0 : Int32) q11.2
          else
            some ((-12 : Int32), q11.2))))))))
theorem ok_r_whose {X : Nat × (Nat → Int32)} {d : Nat} {l1 : Int32} {l2 : Int32} {M : I_M} {r : (Int32 × I_M)} (hd : 3 ≤ d) (h : r_whose l1 l2 M = some r) : I_Ex d 237 [.ref 50, .int l1, .int l2] (i_S X M) (some (.int r.1)) (i_S X r.2) := by
  obtain ⟨d, rfl⟩ : ∃ d1, d = d1 + 1 := ⟨d - 1, by omega⟩
  unfold r_whose at h
  refine i_ex (e := i_r237) (lv := [some (.ref 50), some (.int l1), some (.int l2), none, none, none, none, none, none, none]) rfl (Nat.le_of_ble_eq_true rfl) rfl ?_
  show I_RnE (I_Ex d) i_c237 (0, [some (.ref 50), some (.int l1), some (.int l2), none, none, none, none, none, none, none], [], i_S X M) _ _
  refine i_rs 1 (cf' := (1, [some (.ref 50), some (.int l1), some (.int l2), none, none, none, none, none, none, none], [.int l1], i_S X M)) rfl ?_
  obtain ⟨q9, hq9, h⟩ := i_bdE h
  refine i_rcall (k := 181) (as := [.int l1]) (cf1 := (4, [some (.ref 50), some (.int l1), some (.int l2), none, none, none, none, none, none, none], [], i_S X M)) (cf' := (4, [some (.ref 50), some (.int l1), some (.int l2), none, none, none, none, none, none, none], [.int q9.1], i_S X q9.2)) rfl (ok_r_isShelf (by omega) hq9) rfl ?_
  by_cases c10 : q9.1 = (0 : Int32)
  · replace h := (if_pos c10).symm.trans h
    refine i_rbT (c := q9.1 = (0 : Int32)) (t := 17) (n := 7) rfl c10 ?_
    refine i_rs 1 (cf' := (18, [some (.ref 50), some (.int l1), some (.int l2), none, none, none, none, none, none, none], [.int (-1 : Int32)], i_S X q9.2)) rfl ?_
    obtain rfl := Option.some.inj h
    exact i_rret rfl rfl
  · replace h := (if_neg c10).symm.trans h
    refine i_rbF (c := q9.1 = (0 : Int32)) (t := 17) (n := 7) rfl c10 ?_
    refine i_rs 4 (cf' := (11, [some (.ref 50), some (.int l1), some (.int l2), none, none, none, none, none, none, none], [.long (1 : Int64), .long (0 : Int64), .long (Int32.toInt64 l2)], i_S X q9.2)) rfl ?_
    obtain ⟨q11, hq11, h⟩ := i_bdE h
    refine i_rcall (k := 175) (as := [.long (Int32.toInt64 l2), .long (0 : Int64), .long (1 : Int64)]) (cf1 := (14, [some (.ref 50), some (.int l1), some (.int l2), none, none, none, none, none, none, none], [], i_S X q9.2)) (cf' := (14, [some (.ref 50), some (.int l1), some (.int l2), none, none, none, none, none, none, none], [.int q11.1], i_S X q11.2)) rfl (ok_r_within (by omega) hq11) rfl ?_
    by_cases c12 : q11.1 = (0 : Int32)
    · replace h := (if_pos c12).symm.trans h
      refine i_rbT (c := q11.1 = (0 : Int32)) (t := 17) (n := 19) rfl c12 ?_
      refine i_rs 1 (cf' := (18, [some (.ref 50), some (.int l1), some (.int l2), none, none, none, none, none, none, none], [.int (-1 : Int32)], i_S X q11.2)) rfl ?_
      obtain rfl := Option.some.inj h
      exact i_rret rfl rfl
    · replace h := (if_neg c12).symm.trans h
      refine i_rbF (c := q11.1 = (0 : Int32)) (t := 17) (n := 19) rfl c12 ?_
      refine i_rs 3 (cf' := (24, [some (.ref 50), some (.int l1), some (.int l2), none, none, none, none, none, none, none], [.int l1, .ref 70], i_S X q11.2)) rfl ?_
      obtain ⟨g13, h⟩ := i_gE h
      refine i_riald (n := 6) (cf' := (25, [some (.ref 50), some (.int l1), some (.int l2), none, none, none, none, none, none, none], [.int (q11.2.1 70 (Int32.toNatClampNeg l1))], i_S X q11.2)) rfl rfl (by decide) g13 rfl ?_
      by_cases c14 : (q11.2.1 70 (Int32.toNatClampNeg l1)) < (0 : Int32)
      · replace h := (if_pos c14).symm.trans h
        refine i_rbT (c := (q11.2.1 70 (Int32.toNatClampNeg l1)) < (0 : Int32)) (t := 28) (n := 31) rfl c14 ?_
        refine i_rs 1 (cf' := (30, [some (.ref 50), some (.int l1), some (.int l2), none, none, none, none, none, none, none], [.int (-11 : Int32)], i_S X q11.2)) rfl ?_
        obtain rfl := Option.some.inj h
        exact i_rret rfl rfl
      · replace h := (if_neg c14).symm.trans h
        refine i_rbF (c := (q11.2.1 70 (Int32.toNatClampNeg l1)) < (0 : Int32)) (t := 28) (n := 31) rfl c14 ?_
        refine i_rs 3 (cf' := (36, [some (.ref 50), some (.int l1), some (.int l2), none, none, none, none, none, none, none], [.int l1, .ref 70], i_S X q11.2)) rfl ?_
        refine i_riald (n := 6) (cf' := (37, [some (.ref 50), some (.int l1), some (.int l2), none, none, none, none, none, none, none], [.int (q11.2.1 70 (Int32.toNatClampNeg l1))], i_S X q11.2)) rfl rfl (by decide) g13 rfl ?_
        refine i_rs 1 (cf' := (39, [some (.ref 50), some (.int l1), some (.int l2), none, none, none, none, none, none, none], [.int (50 : Int32), .int (q11.2.1 70 (Int32.toNatClampNeg l1))], i_S X q11.2)) rfl ?_
        by_cases c15 : (q11.2.1 70 (Int32.toNatClampNeg l1)) = (50 : Int32)
        · replace h := (if_pos c15).symm.trans h
          refine i_rbT (c := (q11.2.1 70 (Int32.toNatClampNeg l1)) = (50 : Int32)) (t := 45) (n := 42) rfl c15 ?_
          refine i_rs 6 (cf' := (56, [some (.ref 50), some (.int l1), some (.int l2), some (.int (-2 : Int32)), some (.long (-2 : Int64)), none, some (.int (0 : Int32)), none, none, none], [], i_S X q11.2)) rfl ?_
          refine i_fg (lv' := [some (.ref 50), some (.int l1), some (.int l2), some (.int (-2 : Int32)), some (.long (-2 : Int64)), none, some (.int (0 : Int32)), none, none, none]) (And.intro rfl (And.intro rfl (And.intro rfl (And.intro rfl (And.intro rfl (And.intro rfl True.intro)))))) ?_
          refine ok_r_whose_L56 (by omega) (fun l3_16 l4_16 M16 r h => ?_) i_F (-2 : Int32) (-2 : Int64) (0 : Int32) q11.2 _ h
          refine i_rs 1 (cf' := (127, [none, none, some (.int l2), some (.int l3_16), some (.long l4_16), none, none, none, none, none], [.int l2], i_S X M16)) rfl ?_
          by_cases c17 : l2 = (0 : Int32)
          · replace h := (if_pos c17).symm.trans h
            refine i_rbT (c := l2 = (0 : Int32)) (t := 130) (n := 134) rfl c17 ?_
            refine i_rs 2 (cf' := (137, [none, none, some (.int l2), some (.int l3_16), some (.long l4_16), none, none, none, none, none], [.int l3_16], i_S X M16)) rfl ?_
            obtain rfl := Option.some.inj h
            exact i_rret rfl rfl
          · replace h := (if_neg c17).symm.trans h
            refine i_rbF (c := l2 = (0 : Int32)) (t := 130) (n := 134) rfl c17 ?_
            refine i_rs 2 (cf' := (137, [none, none, some (.int l2), some (.int l3_16), some (.long l4_16), none, none, none, none, none], [.int (Int64.toInt32 l4_16)], i_S X M16)) rfl ?_
            obtain rfl := Option.some.inj h
            exact i_rret rfl rfl
        · replace h := (if_neg c15).symm.trans h
          refine i_rbF (c := (q11.2.1 70 (Int32.toNatClampNeg l1)) = (50 : Int32)) (t := 45) (n := 42) rfl c15 ?_
          refine i_rs 1 (cf' := (44, [some (.ref 50), some (.int l1), some (.int l2), none, none, none, none, none, none, none], [.int (-12 : Int32)], i_S X q11.2)) rfl ?_
          obtain rfl := Option.some.inj h
          exact i_rret rfl rfl
def b_drawn (l0 : Int32) (M : I_M) : Option (Int32 × I_M) :=
  some (((l0 * (1103515245 : Int32)) + (12345 : Int32)), M)
theorem ok_b_drawn {X : Nat × (Nat → Int32)} {d : Nat} {l0 : Int32} {M : I_M} {r : (Int32 × I_M)} (hd : 1 ≤ d) (h : b_drawn l0 M = some r) : I_Ex d 126 [.int l0] (i_S X M) (some (.int r.1)) (i_S X r.2) := by
  obtain ⟨d, rfl⟩ : ∃ d1, d = d1 + 1 := ⟨d - 1, by omega⟩
  unfold b_drawn at h
  refine i_ex (e := i_r126) (lv := [some (.int l0)]) rfl (Nat.le_of_ble_eq_true rfl) rfl ?_
  show I_RnE (I_Ex d) i_c126 (0, [some (.int l0)], [], i_S X M) _ _
  refine i_rs 5 (cf' := (9, [some (.int l0)], [.int ((l0 * (1103515245 : Int32)) + (12345 : Int32))], i_S X M)) rfl ?_
  obtain rfl := Option.some.inj h
  exact i_rret rfl rfl
def b_lotOf (l0 : Int32) (M : I_M) : Option (Int32 × I_M) :=
  some ((i_rem (i_ushr l0 (8 : Int32)) (12 : Int32)), M)
theorem ok_b_lotOf {X : Nat × (Nat → Int32)} {d : Nat} {l0 : Int32} {M : I_M} {r : (Int32 × I_M)} (hd : 1 ≤ d) (h : b_lotOf l0 M = some r) : I_Ex d 127 [.int l0] (i_S X M) (some (.int r.1)) (i_S X r.2) := by
  obtain ⟨d, rfl⟩ : ∃ d1, d = d1 + 1 := ⟨d - 1, by omega⟩
  unfold b_lotOf at h
  refine i_ex (e := i_r127) (lv := [some (.int l0)]) rfl (Nat.le_of_ble_eq_true rfl) rfl ?_
  show I_RnE (I_Ex d) i_c127 (0, [some (.int l0)], [], i_S X M) _ _
  refine i_rs 4 (cf' := (6, [some (.int l0)], [.int (12 : Int32), .int (i_ushr l0 (8 : Int32))], i_S X M)) rfl ?_
  refine i_rrem (cf' := (7, [some (.int l0)], [.int (i_rem (i_ushr l0 (8 : Int32)) (12 : Int32))], i_S X M)) rfl (by decide) rfl ?_
  obtain rfl := Option.some.inj h
  exact i_rret rfl rfl
def b_Buried_sink_L4 : Nat → Int32 → Int32 → I_M → Option (Int32 × I_M)
  | 0, _, _, _ => none
  | n + 1, l2, l3, M =>
    (if l3 < (M.1 13 6) then
        Option.bind (b_drawn l2 M) (fun q2 => Option.bind (b_lotOf q2.1 q2.2) (fun q3 => (if q3.1 < (q3.2.1 1 6) then
          i_g l3 6 ((b_Buried_sink_L4 n) q2.1 (l3 + (1 : Int32)) (i_wI q3.2 16 (Int32.toNatClampNeg l3) (i_min ((q3.2.1 16 (Int32.toNatClampNeg l3)) + (1 : Int32)) (9 : Int32))))
        else
          (if (10 : Int32) < q3.1 then
            i_g l3 6 ((b_Buried_sink_L4 n) q2.1 (l3 + (1 : Int32)) (i_wI q3.2 16 (Int32.toNatClampNeg l3) (i_max ((q3.2.1 16 (Int32.toNatClampNeg l3)) - (1 : Int32)) (0 : Int32))))
          else
            (b_Buried_sink_L4 n) q2.1 (l3 + (1 : Int32)) q3.2))))
      else
        some (l2, M))
theorem ok_b_Buried_sink_L4 {X : Nat × (Nat → Int32)} {d : Nat} (hd : 2 ≤ d + 1) : ∀ (n : Nat) (l2 : Int32) (l3 : Int32) (M : I_M) (r : (Int32 × I_M)), b_Buried_sink_L4 n l2 l3 M = some r → I_RnE (I_Ex d) i_c125 (4, [some (.ref 13), none, some (.int l2), some (.int l3), none], [], i_S X M) (some (.int r.1)) (i_S X r.2) := by
  intro n
  induction n with
  | zero => intro _ _ M r h; cases h
  | succ n hself =>
    intro l2 l3 M r h
    rw [b_Buried_sink_L4] at h
    refine i_rs 3 (cf' := (9, [some (.ref 13), none, some (.int l2), some (.int l3), none], [.int (M.1 13 6), .int l3], i_S X M)) rfl ?_
    by_cases c1 : l3 < (M.1 13 6)
    · replace h := (if_pos c1).symm.trans h
      refine i_rbT (c := l3 < (M.1 13 6)) (t := 12) (n := 88) rfl c1 ?_
      refine i_rs 1 (cf' := (13, [some (.ref 13), none, some (.int l2), some (.int l3), none], [.int l2], i_S X M)) rfl ?_
      obtain ⟨q2, hq2, h⟩ := i_bdE h
      refine i_rcall (k := 126) (as := [.int l2]) (cf1 := (16, [some (.ref 13), none, some (.int l2), some (.int l3), none], [], i_S X M)) (cf' := (16, [some (.ref 13), none, some (.int l2), some (.int l3), none], [.int q2.1], i_S X q2.2)) rfl (ok_b_drawn (by omega) hq2) rfl ?_
      refine i_rs 2 (cf' := (18, [some (.ref 13), none, some (.int q2.1), some (.int l3), none], [.int q2.1], i_S X q2.2)) rfl ?_
      obtain ⟨q3, hq3, h⟩ := i_bdE h
      refine i_rcall (k := 127) (as := [.int q2.1]) (cf1 := (21, [some (.ref 13), none, some (.int q2.1), some (.int l3), none], [], i_S X q2.2)) (cf' := (21, [some (.ref 13), none, some (.int q2.1), some (.int l3), none], [.int q3.1], i_S X q3.2)) rfl (ok_b_lotOf (by omega) hq3) rfl ?_
      refine i_rs 5 (cf' := (32, [some (.ref 13), none, some (.int q2.1), some (.int l3), some (.int q3.1)], [.int (q3.2.1 1 6), .int q3.1], i_S X q3.2)) rfl ?_
      by_cases c4 : q3.1 < (q3.2.1 1 6)
      · replace h := (if_pos c4).symm.trans h
        refine i_rbT (c := q3.1 < (q3.2.1 1 6)) (t := 35) (n := 57) rfl c4 ?_
        refine i_rs 6 (cf' := (45, [some (.ref 13), none, some (.int q2.1), some (.int l3), some (.int q3.1)], [.int l3, .ref 16, .int l3, .ref 16], i_S X q3.2)) rfl ?_
        obtain ⟨g5, h⟩ := i_gE h
        refine i_riald (n := 6) (cf' := (46, [some (.ref 13), none, some (.int q2.1), some (.int l3), some (.int q3.1)], [.int (q3.2.1 16 (Int32.toNatClampNeg l3)), .int l3, .ref 16], i_S X q3.2)) rfl rfl (by decide) g5 rfl ?_
        refine i_rs 4 (cf' := (53, [some (.ref 13), none, some (.int q2.1), some (.int l3), some (.int q3.1)], [.int (i_min ((q3.2.1 16 (Int32.toNatClampNeg l3)) + (1 : Int32)) (9 : Int32)), .int l3, .ref 16], i_S X q3.2)) rfl ?_
        refine i_riast (n := 6) (cf' := (54, [some (.ref 13), none, some (.int q2.1), some (.int l3), some (.int q3.1)], [], i_S X (i_wI q3.2 16 (Int32.toNatClampNeg l3) (i_min ((q3.2.1 16 (Int32.toNatClampNeg l3)) + (1 : Int32)) (9 : Int32))))) rfl rfl (Or.inl rfl) g5 rfl ?_
        refine i_rs 3 (cf' := (4, [some (.ref 13), none, some (.int q2.1), some (.int (l3 + (1 : Int32))), some (.int q3.1)], [], i_S X (i_wI q3.2 16 (Int32.toNatClampNeg l3) (i_min ((q3.2.1 16 (Int32.toNatClampNeg l3)) + (1 : Int32)) (9 : Int32))))) rfl ?_
        refine i_fg (lv' := [some (.ref 13), none, some (.int q2.1), some (.int (l3 + (1 : Int32))), none]) (And.intro rfl (And.intro rfl (And.intro rfl True.intro))) ?_
        exact hself q2.1 (l3 + (1 : Int32)) (i_wI q3.2 16 (Int32.toNatClampNeg l3) (i_min ((q3.2.1 16 (Int32.toNatClampNeg l3)) + (1 : Int32)) (9 : Int32))) _ h
      · replace h := (if_neg c4).symm.trans h
        refine i_rbF (c := q3.1 < (q3.2.1 1 6)) (t := 35) (n := 57) rfl c4 ?_
        refine i_rs 2 (cf' := (61, [some (.ref 13), none, some (.int q2.1), some (.int l3), some (.int q3.1)], [.int (10 : Int32), .int q3.1], i_S X q3.2)) rfl ?_
        by_cases c6 : (10 : Int32) < q3.1
        · replace h := (if_pos c6).symm.trans h
          refine i_rbT (c := (10 : Int32) < q3.1) (t := 64) (n := 82) rfl c6 ?_
          refine i_rs 6 (cf' := (74, [some (.ref 13), none, some (.int q2.1), some (.int l3), some (.int q3.1)], [.int l3, .ref 16, .int l3, .ref 16], i_S X q3.2)) rfl ?_
          obtain ⟨g7, h⟩ := i_gE h
          refine i_riald (n := 6) (cf' := (75, [some (.ref 13), none, some (.int q2.1), some (.int l3), some (.int q3.1)], [.int (q3.2.1 16 (Int32.toNatClampNeg l3)), .int l3, .ref 16], i_S X q3.2)) rfl rfl (by decide) g7 rfl ?_
          refine i_rs 4 (cf' := (81, [some (.ref 13), none, some (.int q2.1), some (.int l3), some (.int q3.1)], [.int (i_max ((q3.2.1 16 (Int32.toNatClampNeg l3)) - (1 : Int32)) (0 : Int32)), .int l3, .ref 16], i_S X q3.2)) rfl ?_
          refine i_riast (n := 6) (cf' := (82, [some (.ref 13), none, some (.int q2.1), some (.int l3), some (.int q3.1)], [], i_S X (i_wI q3.2 16 (Int32.toNatClampNeg l3) (i_max ((q3.2.1 16 (Int32.toNatClampNeg l3)) - (1 : Int32)) (0 : Int32))))) rfl rfl (Or.inl rfl) g7 rfl ?_
          refine i_rs 2 (cf' := (4, [some (.ref 13), none, some (.int q2.1), some (.int (l3 + (1 : Int32))), some (.int q3.1)], [], i_S X (i_wI q3.2 16 (Int32.toNatClampNeg l3) (i_max ((q3.2.1 16 (Int32.toNatClampNeg l3)) - (1 : Int32)) (0 : Int32))))) rfl ?_
          refine i_fg (lv' := [some (.ref 13), none, some (.int q2.1), some (.int (l3 + (1 : Int32))), none]) (And.intro rfl (And.intro rfl (And.intro rfl True.intro))) ?_
          exact hself q2.1 (l3 + (1 : Int32)) (i_wI q3.2 16 (Int32.toNatClampNeg l3) (i_max ((q3.2.1 16 (Int32.toNatClampNeg l3)) - (1 : Int32)) (0 : Int32))) _ h
        · replace h := (if_neg c6).symm.trans h
          refine i_rbF (c := (10 : Int32) < q3.1) (t := 64) (n := 82) rfl c6 ?_
          refine i_rs 2 (cf' := (4, [some (.ref 13), none, some (.int q2.1), some (.int (l3 + (1 : Int32))), some (.int q3.1)], [], i_S X q3.2)) rfl ?_
          refine i_fg (lv' := [some (.ref 13), none, some (.int q2.1), some (.int (l3 + (1 : Int32))), none]) (And.intro rfl (And.intro rfl (And.intro rfl True.intro))) ?_
          exact hself q2.1 (l3 + (1 : Int32)) q3.2 _ h
    · replace h := (if_neg c1).symm.trans h
      refine i_rbF (c := l3 < (M.1 13 6)) (t := 12) (n := 88) rfl c1 ?_
      refine i_rs 1 (cf' := (89, [some (.ref 13), none, some (.int l2), some (.int l3), none], [.int l2], i_S X M)) rfl ?_
      obtain rfl := Option.some.inj h
      exact i_rret rfl rfl
def b_Buried_sink (l1 : Int32) (M : I_M) : Option (Int32 × I_M) :=
  b_Buried_sink_L4 i_F l1 (0 : Int32) M
theorem ok_b_Buried_sink {X : Nat × (Nat → Int32)} {d : Nat} {l1 : Int32} {M : I_M} {r : (Int32 × I_M)} (hd : 2 ≤ d) (h : b_Buried_sink l1 M = some r) : I_Ex d 125 [.ref 13, .int l1] (i_S X M) (some (.int r.1)) (i_S X r.2) := by
  obtain ⟨d, rfl⟩ : ∃ d1, d = d1 + 1 := ⟨d - 1, by omega⟩
  unfold b_Buried_sink at h
  refine i_ex (e := i_r125) (lv := [some (.ref 13), some (.int l1), none, none, none]) rfl (Nat.le_of_ble_eq_true rfl) rfl ?_
  show I_RnE (I_Ex d) i_c125 (0, [some (.ref 13), some (.int l1), none, none, none], [], i_S X M) _ _
  refine i_rs 4 (cf' := (4, [some (.ref 13), some (.int l1), some (.int l1), some (.int (0 : Int32)), none], [], i_S X M)) rfl ?_
  refine i_fg (lv' := [some (.ref 13), none, some (.int l1), some (.int (0 : Int32)), none]) (And.intro rfl (And.intro rfl (And.intro rfl True.intro))) ?_
  refine ok_b_Buried_sink_L4 (by omega) i_F l1 (0 : Int32) M _ h
def b_Land_soak_L4 : Nat → Int32 → Int32 → I_M → Option (Int32 × I_M)
  | 0, _, _, _ => none
  | n + 1, l2, l3, M =>
    Option.bind (b_Land_cells M) (fun q1 => (if l3 < q1.1 then
        Option.bind (b_drawn l2 q1.2) (fun q3 => Option.bind (b_lotOf q3.1 q3.2) (fun q4 => (if q4.1 < (q4.2.1 1 6) then
          i_g l3 25 ((b_Land_soak_L4 n) q3.1 (l3 + (1 : Int32)) (i_wI q4.2 4 (Int32.toNatClampNeg l3) (i_min ((q4.2.1 4 (Int32.toNatClampNeg l3)) + (1 : Int32)) (9 : Int32))))
        else
          (b_Land_soak_L4 n) q3.1 (l3 + (1 : Int32)) q4.2)))
      else
        some (l2, q1.2)))
theorem ok_b_Land_soak_L4 {X : Nat × (Nat → Int32)} {d : Nat} (hd : 2 ≤ d + 1) : ∀ (n : Nat) (l2 : Int32) (l3 : Int32) (M : I_M) (r : (Int32 × I_M)), b_Land_soak_L4 n l2 l3 M = some r → I_RnE (I_Ex d) i_c128 (4, [some (.ref 1), none, some (.int l2), some (.int l3)], [], i_S X M) (some (.int r.1)) (i_S X r.2) := by
  intro n
  induction n with
  | zero => intro _ _ M r h; cases h
  | succ n hself =>
    intro l2 l3 M r h
    rw [b_Land_soak_L4] at h
    refine i_rs 2 (cf' := (6, [some (.ref 1), none, some (.int l2), some (.int l3)], [.ref 1, .int l3], i_S X M)) rfl ?_
    obtain ⟨q1, hq1, h⟩ := i_bdE h
    refine i_rcall (k := 21) (as := [.ref 1]) (cf1 := (9, [some (.ref 1), none, some (.int l2), some (.int l3)], [.int l3], i_S X M)) (cf' := (9, [some (.ref 1), none, some (.int l2), some (.int l3)], [.int q1.1, .int l3], i_S X q1.2)) rfl (ok_b_Land_cells (by omega) hq1) rfl ?_
    by_cases c2 : l3 < q1.1
    · replace h := (if_pos c2).symm.trans h
      refine i_rbT (c := l3 < q1.1) (t := 12) (n := 53) rfl c2 ?_
      refine i_rs 1 (cf' := (13, [some (.ref 1), none, some (.int l2), some (.int l3)], [.int l2], i_S X q1.2)) rfl ?_
      obtain ⟨q3, hq3, h⟩ := i_bdE h
      refine i_rcall (k := 126) (as := [.int l2]) (cf1 := (16, [some (.ref 1), none, some (.int l2), some (.int l3)], [], i_S X q1.2)) (cf' := (16, [some (.ref 1), none, some (.int l2), some (.int l3)], [.int q3.1], i_S X q3.2)) rfl (ok_b_drawn (by omega) hq3) rfl ?_
      refine i_rs 2 (cf' := (18, [some (.ref 1), none, some (.int q3.1), some (.int l3)], [.int q3.1], i_S X q3.2)) rfl ?_
      obtain ⟨q4, hq4, h⟩ := i_bdE h
      refine i_rcall (k := 127) (as := [.int q3.1]) (cf1 := (21, [some (.ref 1), none, some (.int q3.1), some (.int l3)], [], i_S X q3.2)) (cf' := (21, [some (.ref 1), none, some (.int q3.1), some (.int l3)], [.int q4.1], i_S X q4.2)) rfl (ok_b_lotOf (by omega) hq4) rfl ?_
      refine i_rs 2 (cf' := (25, [some (.ref 1), none, some (.int q3.1), some (.int l3)], [.int (q4.2.1 1 6), .int q4.1], i_S X q4.2)) rfl ?_
      by_cases c5 : q4.1 < (q4.2.1 1 6)
      · replace h := (if_pos c5).symm.trans h
        refine i_rbT (c := q4.1 < (q4.2.1 1 6)) (t := 28) (n := 47) rfl c5 ?_
        refine i_rs 6 (cf' := (38, [some (.ref 1), none, some (.int q3.1), some (.int l3)], [.int l3, .ref 4, .int l3, .ref 4], i_S X q4.2)) rfl ?_
        obtain ⟨g6, h⟩ := i_gE h
        refine i_riald (n := 25) (cf' := (39, [some (.ref 1), none, some (.int q3.1), some (.int l3)], [.int (q4.2.1 4 (Int32.toNatClampNeg l3)), .int l3, .ref 4], i_S X q4.2)) rfl rfl (by decide) g6 rfl ?_
        refine i_rs 4 (cf' := (46, [some (.ref 1), none, some (.int q3.1), some (.int l3)], [.int (i_min ((q4.2.1 4 (Int32.toNatClampNeg l3)) + (1 : Int32)) (9 : Int32)), .int l3, .ref 4], i_S X q4.2)) rfl ?_
        refine i_riast (n := 25) (cf' := (47, [some (.ref 1), none, some (.int q3.1), some (.int l3)], [], i_S X (i_wI q4.2 4 (Int32.toNatClampNeg l3) (i_min ((q4.2.1 4 (Int32.toNatClampNeg l3)) + (1 : Int32)) (9 : Int32))))) rfl rfl (Or.inl rfl) g6 rfl ?_
        refine i_rs 2 (cf' := (4, [some (.ref 1), none, some (.int q3.1), some (.int (l3 + (1 : Int32)))], [], i_S X (i_wI q4.2 4 (Int32.toNatClampNeg l3) (i_min ((q4.2.1 4 (Int32.toNatClampNeg l3)) + (1 : Int32)) (9 : Int32))))) rfl ?_
        refine i_fg (lv' := [some (.ref 1), none, some (.int q3.1), some (.int (l3 + (1 : Int32)))]) (And.intro rfl (And.intro rfl (And.intro rfl True.intro))) ?_
        exact hself q3.1 (l3 + (1 : Int32)) (i_wI q4.2 4 (Int32.toNatClampNeg l3) (i_min ((q4.2.1 4 (Int32.toNatClampNeg l3)) + (1 : Int32)) (9 : Int32))) _ h
      · replace h := (if_neg c5).symm.trans h
        refine i_rbF (c := q4.1 < (q4.2.1 1 6)) (t := 28) (n := 47) rfl c5 ?_
        refine i_rs 2 (cf' := (4, [some (.ref 1), none, some (.int q3.1), some (.int (l3 + (1 : Int32)))], [], i_S X q4.2)) rfl ?_
        refine i_fg (lv' := [some (.ref 1), none, some (.int q3.1), some (.int (l3 + (1 : Int32)))]) (And.intro rfl (And.intro rfl (And.intro rfl True.intro))) ?_
        exact hself q3.1 (l3 + (1 : Int32)) q4.2 _ h
    · replace h := (if_neg c2).symm.trans h
      refine i_rbF (c := l3 < q1.1) (t := 12) (n := 53) rfl c2 ?_
      refine i_rs 1 (cf' := (54, [some (.ref 1), none, some (.int l2), some (.int l3)], [.int l2], i_S X q1.2)) rfl ?_
      obtain rfl := Option.some.inj h
      exact i_rret rfl rfl
def b_Land_soak (l1 : Int32) (M : I_M) : Option (Int32 × I_M) :=
  b_Land_soak_L4 i_F l1 (0 : Int32) M
theorem ok_b_Land_soak {X : Nat × (Nat → Int32)} {d : Nat} {l1 : Int32} {M : I_M} {r : (Int32 × I_M)} (hd : 2 ≤ d) (h : b_Land_soak l1 M = some r) : I_Ex d 128 [.ref 1, .int l1] (i_S X M) (some (.int r.1)) (i_S X r.2) := by
  obtain ⟨d, rfl⟩ : ∃ d1, d = d1 + 1 := ⟨d - 1, by omega⟩
  unfold b_Land_soak at h
  refine i_ex (e := i_r128) (lv := [some (.ref 1), some (.int l1), none, none]) rfl (Nat.le_of_ble_eq_true rfl) rfl ?_
  show I_RnE (I_Ex d) i_c128 (0, [some (.ref 1), some (.int l1), none, none], [], i_S X M) _ _
  refine i_rs 4 (cf' := (4, [some (.ref 1), some (.int l1), some (.int l1), some (.int (0 : Int32))], [], i_S X M)) rfl ?_
  refine i_fg (lv' := [some (.ref 1), none, some (.int l1), some (.int (0 : Int32))]) (And.intro rfl (And.intro rfl (And.intro rfl True.intro))) ?_
  refine ok_b_Land_soak_L4 (by omega) i_F l1 (0 : Int32) M _ h
def b_Buried_depths_L4 : Nat → Int32 → Int32 → I_M → Option (Int32 × I_M)
  | 0, _, _, _ => none
  | n + 1, l1, l2, M =>
    (if l2 < (M.1 13 6) then
        i_g l2 6 ((b_Buried_depths_L4 n) (l1 + (M.1 16 (Int32.toNatClampNeg l2))) (l2 + (1 : Int32)) M)
      else
        some (l1, M))
theorem ok_b_Buried_depths_L4 {X : Nat × (Nat → Int32)} {d : Nat} (hd : 1 ≤ d + 1) : ∀ (n : Nat) (l1 : Int32) (l2 : Int32) (M : I_M) (r : (Int32 × I_M)), b_Buried_depths_L4 n l1 l2 M = some r → I_RnE (I_Ex d) i_c129 (4, [some (.ref 13), some (.int l1), some (.int l2)], [], i_S X M) (some (.int r.1)) (i_S X r.2) := by
  intro n
  induction n with
  | zero => intro _ _ M r h; cases h
  | succ n hself =>
    intro l1 l2 M r h
    rw [b_Buried_depths_L4] at h
    refine i_rs 3 (cf' := (9, [some (.ref 13), some (.int l1), some (.int l2)], [.int (M.1 13 6), .int l2], i_S X M)) rfl ?_
    by_cases c1 : l2 < (M.1 13 6)
    · replace h := (if_pos c1).symm.trans h
      refine i_rbT (c := l2 < (M.1 13 6)) (t := 12) (n := 27) rfl c1 ?_
      refine i_rs 4 (cf' := (18, [some (.ref 13), some (.int l1), some (.int l2)], [.int l2, .ref 16, .int l1], i_S X M)) rfl ?_
      obtain ⟨g2, h⟩ := i_gE h
      refine i_riald (n := 6) (cf' := (19, [some (.ref 13), some (.int l1), some (.int l2)], [.int (M.1 16 (Int32.toNatClampNeg l2)), .int l1], i_S X M)) rfl rfl (by decide) g2 rfl ?_
      refine i_rs 4 (cf' := (4, [some (.ref 13), some (.int (l1 + (M.1 16 (Int32.toNatClampNeg l2)))), some (.int (l2 + (1 : Int32)))], [], i_S X M)) rfl ?_
      refine i_fg (lv' := [some (.ref 13), some (.int (l1 + (M.1 16 (Int32.toNatClampNeg l2)))), some (.int (l2 + (1 : Int32)))]) (And.intro rfl (And.intro rfl (And.intro rfl True.intro))) ?_
      exact hself (l1 + (M.1 16 (Int32.toNatClampNeg l2))) (l2 + (1 : Int32)) M _ h
    · replace h := (if_neg c1).symm.trans h
      refine i_rbF (c := l2 < (M.1 13 6)) (t := 12) (n := 27) rfl c1 ?_
      refine i_rs 1 (cf' := (28, [some (.ref 13), some (.int l1), some (.int l2)], [.int l1], i_S X M)) rfl ?_
      obtain rfl := Option.some.inj h
      exact i_rret rfl rfl
def b_Buried_depths (M : I_M) : Option (Int32 × I_M) :=
  b_Buried_depths_L4 i_F (0 : Int32) (0 : Int32) M
theorem ok_b_Buried_depths {X : Nat × (Nat → Int32)} {d : Nat} {M : I_M} {r : (Int32 × I_M)} (hd : 1 ≤ d) (h : b_Buried_depths M = some r) : I_Ex d 129 [.ref 13] (i_S X M) (some (.int r.1)) (i_S X r.2) := by
  obtain ⟨d, rfl⟩ : ∃ d1, d = d1 + 1 := ⟨d - 1, by omega⟩
  unfold b_Buried_depths at h
  refine i_ex (e := i_r129) (lv := [some (.ref 13), none, none]) rfl (Nat.le_of_ble_eq_true rfl) rfl ?_
  show I_RnE (I_Ex d) i_c129 (0, [some (.ref 13), none, none], [], i_S X M) _ _
  refine i_rs 4 (cf' := (4, [some (.ref 13), some (.int (0 : Int32)), some (.int (0 : Int32))], [], i_S X M)) rfl ?_
  refine i_fg (lv' := [some (.ref 13), some (.int (0 : Int32)), some (.int (0 : Int32))]) (And.intro rfl (And.intro rfl (And.intro rfl True.intro))) ?_
  refine ok_b_Buried_depths_L4 (by omega) i_F (0 : Int32) (0 : Int32) M _ h
def b_years_L18 (l2 : Int32) (k48 : I_M → Option (Int32 × I_M)) : Nat → Int32 → Int32 → I_M → Option (Int32 × I_M)
  | 0, _, _, _ => none
  | n + 1, l3, l4, M =>
    (if l4 < l2 then
        Option.bind (b_Buried_sink l3 M) (fun q2 => Option.bind (b_Land_soak q2.1 q2.2) (fun q3 => (b_years_L18 l2 k48 n) q3.1 (l4 + (1 : Int32)) q3.2))
      else
        k48  M)
theorem ok_b_years_L18 {X : Nat × (Nat → Int32)} {d : Nat} {l2 : Int32} {k48 : I_M → Option (Int32 × I_M)} (hd : 3 ≤ d + 1) (hk48 : ∀ (M : I_M) (r : (Int32 × I_M)), k48 M = some r → I_RnE (I_Ex d) i_c124 (48, [some (.ref 0), none, none, none, none], [], i_S X M) (some (.int r.1)) (i_S X r.2)) : ∀ (n : Nat) (l3 : Int32) (l4 : Int32) (M : I_M) (r : (Int32 × I_M)), b_years_L18 l2 k48 n l3 l4 M = some r → I_RnE (I_Ex d) i_c124 (18, [some (.ref 0), none, some (.int l2), some (.int l3), some (.int l4)], [], i_S X M) (some (.int r.1)) (i_S X r.2) := by
  intro n
  induction n with
  | zero => intro _ _ M r h; cases h
  | succ n hself =>
    intro l3 l4 M r h
    rw [b_years_L18] at h
    refine i_rs 2 (cf' := (21, [some (.ref 0), none, some (.int l2), some (.int l3), some (.int l4)], [.int l2, .int l4], i_S X M)) rfl ?_
    by_cases c1 : l4 < l2
    · replace h := (if_pos c1).symm.trans h
      refine i_rbT (c := l4 < l2) (t := 24) (n := 48) rfl c1 ?_
      refine i_rs 3 (cf' := (29, [some (.ref 0), none, some (.int l2), some (.int l3), some (.int l4)], [.int l3, .ref 13], i_S X M)) rfl ?_
      obtain ⟨q2, hq2, h⟩ := i_bdE h
      refine i_rcall (k := 125) (as := [.ref 13, .int l3]) (cf1 := (32, [some (.ref 0), none, some (.int l2), some (.int l3), some (.int l4)], [], i_S X M)) (cf' := (32, [some (.ref 0), none, some (.int l2), some (.int l3), some (.int l4)], [.int q2.1], i_S X q2.2)) rfl (ok_b_Buried_sink (by omega) hq2) rfl ?_
      refine i_rs 4 (cf' := (38, [some (.ref 0), none, some (.int l2), some (.int q2.1), some (.int l4)], [.int q2.1, .ref 1], i_S X q2.2)) rfl ?_
      obtain ⟨q3, hq3, h⟩ := i_bdE h
      refine i_rcall (k := 128) (as := [.ref 1, .int q2.1]) (cf1 := (41, [some (.ref 0), none, some (.int l2), some (.int q2.1), some (.int l4)], [], i_S X q2.2)) (cf' := (41, [some (.ref 0), none, some (.int l2), some (.int q2.1), some (.int l4)], [.int q3.1], i_S X q3.2)) rfl (ok_b_Land_soak (by omega) hq3) rfl ?_
      refine i_rs 3 (cf' := (18, [some (.ref 0), none, some (.int l2), some (.int q3.1), some (.int (l4 + (1 : Int32)))], [], i_S X q3.2)) rfl ?_
      refine i_fg (lv' := [some (.ref 0), none, some (.int l2), some (.int q3.1), some (.int (l4 + (1 : Int32)))]) (And.intro rfl (And.intro rfl (And.intro rfl (And.intro rfl True.intro)))) ?_
      exact hself q3.1 (l4 + (1 : Int32)) q3.2 _ h
    · replace h := (if_neg c1).symm.trans h
      refine i_rbF (c := l4 < l2) (t := 24) (n := 48) rfl c1 ?_
      refine i_fg (lv' := [some (.ref 0), none, none, none, none]) (And.intro rfl True.intro) ?_
      exact hk48  M _ h
def b_years (l1 : Int32) (l2 : Int32) (M : I_M) : Option (Int32 × I_M) :=
  (if l2 < (1 : Int32) then
      some ((-1 : Int32), M)
    else
      (if (30 : Int32) < l2 then
        some ((-1 : Int32), M)
      else
        b_years_L18 l2 (fun M6 =>
            Option.bind (b_Buried_depths M6) (fun q7 => some (q7.1, q7.2))) i_F l1 (0 : Int32) M))
theorem ok_b_years {X : Nat × (Nat → Int32)} {d : Nat} {l1 : Int32} {l2 : Int32} {M : I_M} {r : (Int32 × I_M)} (hd : 3 ≤ d) (h : b_years l1 l2 M = some r) : I_Ex d 124 [.ref 0, .int l1, .int l2] (i_S X M) (some (.int r.1)) (i_S X r.2) := by
  obtain ⟨d, rfl⟩ : ∃ d1, d = d1 + 1 := ⟨d - 1, by omega⟩
  unfold b_years at h
  refine i_ex (e := i_r124) (lv := [some (.ref 0), some (.int l1), some (.int l2), none, none]) rfl (Nat.le_of_ble_eq_true rfl) rfl ?_
  show I_RnE (I_Ex d) i_c124 (0, [some (.ref 0), some (.int l1), some (.int l2), none, none], [], i_S X M) _ _
  refine i_rs 2 (cf' := (2, [some (.ref 0), some (.int l1), some (.int l2), none, none], [.int (1 : Int32), .int l2], i_S X M)) rfl ?_
  by_cases c4 : l2 < (1 : Int32)
  · replace h := (if_pos c4).symm.trans h
    refine i_rbT (c := l2 < (1 : Int32)) (t := 11) (n := 5) rfl c4 ?_
    refine i_rs 1 (cf' := (12, [some (.ref 0), some (.int l1), some (.int l2), none, none], [.int (-1 : Int32)], i_S X M)) rfl ?_
    obtain rfl := Option.some.inj h
    exact i_rret rfl rfl
  · replace h := (if_neg c4).symm.trans h
    refine i_rbF (c := l2 < (1 : Int32)) (t := 11) (n := 5) rfl c4 ?_
    refine i_rs 2 (cf' := (8, [some (.ref 0), some (.int l1), some (.int l2), none, none], [.int (30 : Int32), .int l2], i_S X M)) rfl ?_
    by_cases c5 : (30 : Int32) < l2
    · replace h := (if_pos c5).symm.trans h
      refine i_rbT (c := (30 : Int32) < l2) (t := 11) (n := 13) rfl c5 ?_
      refine i_rs 1 (cf' := (12, [some (.ref 0), some (.int l1), some (.int l2), none, none], [.int (-1 : Int32)], i_S X M)) rfl ?_
      obtain rfl := Option.some.inj h
      exact i_rret rfl rfl
    · replace h := (if_neg c5).symm.trans h
      refine i_rbF (c := (30 : Int32) < l2) (t := 11) (n := 13) rfl c5 ?_
      refine i_rs 4 (cf' := (18, [some (.ref 0), some (.int l1), some (.int l2), some (.int l1), some (.int (0 : Int32))], [], i_S X M)) rfl ?_
      refine i_fg (lv' := [some (.ref 0), none, some (.int l2), some (.int l1), some (.int (0 : Int32))]) (And.intro rfl (And.intro rfl (And.intro rfl (And.intro rfl True.intro)))) ?_
      refine ok_b_years_L18 (by omega) (fun M6 r h => ?_) i_F l1 (0 : Int32) M _ h
      refine i_rs 2 (cf' := (52, [some (.ref 0), none, none, none, none], [.ref 13], i_S X M6)) rfl ?_
      obtain ⟨q7, hq7, h⟩ := i_bdE h
      refine i_rcall (k := 129) (as := [.ref 13]) (cf1 := (55, [some (.ref 0), none, none, none, none], [], i_S X M6)) (cf' := (55, [some (.ref 0), none, none, none, none], [.int q7.1], i_S X q7.2)) rfl (ok_b_Buried_depths (by omega) hq7) rfl ?_
      obtain rfl := Option.some.inj h
      exact i_rret rfl rfl
def r_draws (M : I_M) : Option (Int32 × I_M) :=
  some ((i_rem (i_ushr (((M.1 50 40) * (1103515245 : Int32)) + (12345 : Int32)) (8 : Int32)) (12 : Int32)), (i_wI M 50 40 (((M.1 50 40) * (1103515245 : Int32)) + (12345 : Int32))))
theorem ok_r_draws {X : Nat × (Nat → Int32)} {d : Nat} {M : I_M} {r : (Int32 × I_M)} (hd : 1 ≤ d) (h : r_draws M = some r) : I_Ex d 241 [.ref 50] (i_S X M) (some (.int r.1)) (i_S X r.2) := by
  obtain ⟨d, rfl⟩ : ∃ d1, d = d1 + 1 := ⟨d - 1, by omega⟩
  unfold r_draws at h
  refine i_ex (e := i_r241) (lv := [some (.ref 50)]) rfl (Nat.le_of_ble_eq_true rfl) rfl ?_
  show I_RnE (I_Ex d) i_c241 (0, [some (.ref 50)], [], i_S X M) _ _
  refine i_rs 13 (cf' := (25, [some (.ref 50)], [.int (12 : Int32), .int (i_ushr (((M.1 50 40) * (1103515245 : Int32)) + (12345 : Int32)) (8 : Int32))], i_S X (i_wI M 50 40 (((M.1 50 40) * (1103515245 : Int32)) + (12345 : Int32))))) rfl ?_
  refine i_rrem (cf' := (26, [some (.ref 50)], [.int (i_rem (i_ushr (((M.1 50 40) * (1103515245 : Int32)) + (12345 : Int32)) (8 : Int32)) (12 : Int32))], i_S X (i_wI M 50 40 (((M.1 50 40) * (1103515245 : Int32)) + (12345 : Int32))))) rfl (by decide) rfl ?_
  obtain rfl := Option.some.inj h
  exact i_rret rfl rfl
def r_yearGoes_L96 : Nat → Int32 → I_M → Option I_M
  | 0, _, _ => none
  | n + 1, l1, M =>
    Option.bind (r_cells M) (fun q1 => (if l1 < q1.1 then
        i_g l1 60 (Option.bind (r_draws q1.2) (fun q4 => (if q4.1 < (q4.2.1 51 56) then
          (if (q4.2.1 51 (Int32.toNatClampNeg l1)) < (9 : Int32) then
            (r_yearGoes_L96 n) (l1 + (1 : Int32)) (i_wI q4.2 51 (Int32.toNatClampNeg l1) ((q1.2.1 51 (Int32.toNatClampNeg l1)) + (1 : Int32)))
          else
            (r_yearGoes_L96 n) (l1 + (1 : Int32)) (i_wI q4.2 51 (Int32.toNatClampNeg l1) ((q1.2.1 51 (Int32.toNatClampNeg l1)) + (0 : Int32))))
        else
          (r_yearGoes_L96 n) (l1 + (1 : Int32)) (i_wI q4.2 51 (Int32.toNatClampNeg l1) ((q1.2.1 51 (Int32.toNatClampNeg l1)) + (0 : Int32))))))
      else
        some q1.2))
theorem ok_r_yearGoes_L96 {X : Nat × (Nat → Int32)} {d : Nat} (hd : 2 ≤ d + 1) : ∀ (n : Nat) (l1 : Int32) (M : I_M) (r : I_M), r_yearGoes_L96 n l1 M = some r → I_RnE (I_Ex d) i_c240 (96, [some (.ref 50), some (.int l1), none, none], [], i_S X M) none (i_S X r) := by
  intro n
  induction n with
  | zero => intro _ M r h; cases h
  | succ n hself =>
    intro l1 M r h
    rw [r_yearGoes_L96] at h
    refine i_rs 2 (cf' := (98, [some (.ref 50), some (.int l1), none, none], [.ref 50, .int l1], i_S X M)) rfl ?_
    obtain ⟨q1, hq1, h⟩ := i_bdE h
    refine i_rcall (k := 178) (as := [.ref 50]) (cf1 := (101, [some (.ref 50), some (.int l1), none, none], [.int l1], i_S X M)) (cf' := (101, [some (.ref 50), some (.int l1), none, none], [.int q1.1, .int l1], i_S X q1.2)) rfl (ok_r_cells (by omega) hq1) rfl ?_
    by_cases c2 : l1 < q1.1
    · replace h := (if_pos c2).symm.trans h
      refine i_rbT (c := l1 < q1.1) (t := 104) (n := 149) rfl c2 ?_
      refine i_rs 4 (cf' := (110, [some (.ref 50), some (.int l1), none, none], [.int l1, .ref 51, .int l1, .ref 51], i_S X q1.2)) rfl ?_
      obtain ⟨g3, h⟩ := i_gE h
      refine i_riald (n := 60) (cf' := (111, [some (.ref 50), some (.int l1), none, none], [.int (q1.2.1 51 (Int32.toNatClampNeg l1)), .int l1, .ref 51], i_S X q1.2)) rfl rfl (by decide) g3 rfl ?_
      refine i_rs 1 (cf' := (112, [some (.ref 50), some (.int l1), none, none], [.ref 50, .int (q1.2.1 51 (Int32.toNatClampNeg l1)), .int l1, .ref 51], i_S X q1.2)) rfl ?_
      obtain ⟨q4, hq4, h⟩ := i_bdE h
      refine i_rcall (k := 241) (as := [.ref 50]) (cf1 := (115, [some (.ref 50), some (.int l1), none, none], [.int (q1.2.1 51 (Int32.toNatClampNeg l1)), .int l1, .ref 51], i_S X q1.2)) (cf' := (115, [some (.ref 50), some (.int l1), none, none], [.int q4.1, .int (q1.2.1 51 (Int32.toNatClampNeg l1)), .int l1, .ref 51], i_S X q4.2)) rfl (ok_r_draws (by omega) hq4) rfl ?_
      refine i_rs 3 (cf' := (121, [some (.ref 50), some (.int l1), none, none], [.int (56 : Int32), .ref 51, .int q4.1, .int (q1.2.1 51 (Int32.toNatClampNeg l1)), .int l1, .ref 51], i_S X q4.2)) rfl ?_
      refine i_riald (n := 60) (cf' := (122, [some (.ref 50), some (.int l1), none, none], [.int (q4.2.1 51 56), .int q4.1, .int (q1.2.1 51 (Int32.toNatClampNeg l1)), .int l1, .ref 51], i_S X q4.2)) rfl rfl (by decide) (by decide) rfl ?_
      by_cases c5 : q4.1 < (q4.2.1 51 56)
      · replace h := (if_pos c5).symm.trans h
        refine i_rbT (c := q4.1 < (q4.2.1 51 56)) (t := 125) (n := 140) rfl c5 ?_
        refine i_rs 3 (cf' := (130, [some (.ref 50), some (.int l1), none, none], [.int l1, .ref 51, .int (q1.2.1 51 (Int32.toNatClampNeg l1)), .int l1, .ref 51], i_S X q4.2)) rfl ?_
        refine i_riald (n := 60) (cf' := (131, [some (.ref 50), some (.int l1), none, none], [.int (q4.2.1 51 (Int32.toNatClampNeg l1)), .int (q1.2.1 51 (Int32.toNatClampNeg l1)), .int l1, .ref 51], i_S X q4.2)) rfl rfl (by decide) g3 rfl ?_
        refine i_rs 1 (cf' := (133, [some (.ref 50), some (.int l1), none, none], [.int (9 : Int32), .int (q4.2.1 51 (Int32.toNatClampNeg l1)), .int (q1.2.1 51 (Int32.toNatClampNeg l1)), .int l1, .ref 51], i_S X q4.2)) rfl ?_
        by_cases c6 : (q4.2.1 51 (Int32.toNatClampNeg l1)) < (9 : Int32)
        · replace h := (if_pos c6).symm.trans h
          refine i_rbT (c := (q4.2.1 51 (Int32.toNatClampNeg l1)) < (9 : Int32)) (t := 136) (n := 140) rfl c6 ?_
          refine i_rs 3 (cf' := (142, [some (.ref 50), some (.int l1), none, none], [.int ((q1.2.1 51 (Int32.toNatClampNeg l1)) + (1 : Int32)), .int l1, .ref 51], i_S X q4.2)) rfl ?_
          refine i_riast (n := 60) (cf' := (143, [some (.ref 50), some (.int l1), none, none], [], i_S X (i_wI q4.2 51 (Int32.toNatClampNeg l1) ((q1.2.1 51 (Int32.toNatClampNeg l1)) + (1 : Int32))))) rfl rfl (Or.inl rfl) g3 rfl ?_
          refine i_rs 2 (cf' := (96, [some (.ref 50), some (.int (l1 + (1 : Int32))), none, none], [], i_S X (i_wI q4.2 51 (Int32.toNatClampNeg l1) ((q1.2.1 51 (Int32.toNatClampNeg l1)) + (1 : Int32))))) rfl ?_
          refine i_fg (lv' := [some (.ref 50), some (.int (l1 + (1 : Int32))), none, none]) (And.intro rfl (And.intro rfl True.intro)) ?_
          exact hself (l1 + (1 : Int32)) (i_wI q4.2 51 (Int32.toNatClampNeg l1) ((q1.2.1 51 (Int32.toNatClampNeg l1)) + (1 : Int32))) _ h
        · replace h := (if_neg c6).symm.trans h
          refine i_rbF (c := (q4.2.1 51 (Int32.toNatClampNeg l1)) < (9 : Int32)) (t := 136) (n := 140) rfl c6 ?_
          refine i_rs 2 (cf' := (142, [some (.ref 50), some (.int l1), none, none], [.int ((q1.2.1 51 (Int32.toNatClampNeg l1)) + (0 : Int32)), .int l1, .ref 51], i_S X q4.2)) rfl ?_
          refine i_riast (n := 60) (cf' := (143, [some (.ref 50), some (.int l1), none, none], [], i_S X (i_wI q4.2 51 (Int32.toNatClampNeg l1) ((q1.2.1 51 (Int32.toNatClampNeg l1)) + (0 : Int32))))) rfl rfl (Or.inl rfl) g3 rfl ?_
          refine i_rs 2 (cf' := (96, [some (.ref 50), some (.int (l1 + (1 : Int32))), none, none], [], i_S X (i_wI q4.2 51 (Int32.toNatClampNeg l1) ((q1.2.1 51 (Int32.toNatClampNeg l1)) + (0 : Int32))))) rfl ?_
          refine i_fg (lv' := [some (.ref 50), some (.int (l1 + (1 : Int32))), none, none]) (And.intro rfl (And.intro rfl True.intro)) ?_
          exact hself (l1 + (1 : Int32)) (i_wI q4.2 51 (Int32.toNatClampNeg l1) ((q1.2.1 51 (Int32.toNatClampNeg l1)) + (0 : Int32))) _ h
      · replace h := (if_neg c5).symm.trans h
        refine i_rbF (c := q4.1 < (q4.2.1 51 56)) (t := 125) (n := 140) rfl c5 ?_
        refine i_rs 2 (cf' := (142, [some (.ref 50), some (.int l1), none, none], [.int ((q1.2.1 51 (Int32.toNatClampNeg l1)) + (0 : Int32)), .int l1, .ref 51], i_S X q4.2)) rfl ?_
        refine i_riast (n := 60) (cf' := (143, [some (.ref 50), some (.int l1), none, none], [], i_S X (i_wI q4.2 51 (Int32.toNatClampNeg l1) ((q1.2.1 51 (Int32.toNatClampNeg l1)) + (0 : Int32))))) rfl rfl (Or.inl rfl) g3 rfl ?_
        refine i_rs 2 (cf' := (96, [some (.ref 50), some (.int (l1 + (1 : Int32))), none, none], [], i_S X (i_wI q4.2 51 (Int32.toNatClampNeg l1) ((q1.2.1 51 (Int32.toNatClampNeg l1)) + (0 : Int32))))) rfl ?_
        refine i_fg (lv' := [some (.ref 50), some (.int (l1 + (1 : Int32))), none, none]) (And.intro rfl (And.intro rfl True.intro)) ?_
        exact hself (l1 + (1 : Int32)) (i_wI q4.2 51 (Int32.toNatClampNeg l1) ((q1.2.1 51 (Int32.toNatClampNeg l1)) + (0 : Int32))) _ h
    · replace h := (if_neg c2).symm.trans h
      refine i_rbF (c := l1 < q1.1) (t := 104) (n := 149) rfl c2 ?_
      obtain rfl := Option.some.inj h
      exact i_rret rfl rfl
def r_yearGoes_L2 (k94 : I_M → Option I_M) : Nat → Int32 → I_M → Option I_M
  | 0, _, _ => none
  | n + 1, l1, M =>
    (if l1 < (M.1 50 8) then
        Option.bind (r_draws M) (fun q8 => i_g ((50 : Int32) + l1) 60 ((if q8.1 < (q8.2.1 51 56) then
          (if (q8.2.1 51 (Int32.toNatClampNeg ((50 : Int32) + l1))) < (9 : Int32) then
            (r_yearGoes_L2 k94 n) (l1 + (1 : Int32)) (i_wI q8.2 51 (Int32.toNatClampNeg ((50 : Int32) + l1)) ((q8.2.1 51 (Int32.toNatClampNeg ((50 : Int32) + l1))) + (1 : Int32)))
          else
            (r_yearGoes_L2 k94 n) (l1 + (1 : Int32)) (i_wI q8.2 51 (Int32.toNatClampNeg ((50 : Int32) + l1)) (9 : Int32)))
        else
          (if (10 : Int32) < q8.1 then
            (if (0 : Int32) < (q8.2.1 51 (Int32.toNatClampNeg ((50 : Int32) + l1))) then
              (r_yearGoes_L2 k94 n) (l1 + (1 : Int32)) (i_wI q8.2 51 (Int32.toNatClampNeg ((50 : Int32) + l1)) ((q8.2.1 51 (Int32.toNatClampNeg ((50 : Int32) + l1))) - (1 : Int32)))
            else
              (r_yearGoes_L2 k94 n) (l1 + (1 : Int32)) (i_wI q8.2 51 (Int32.toNatClampNeg ((50 : Int32) + l1)) (0 : Int32)))
          else
            (r_yearGoes_L2 k94 n) (l1 + (1 : Int32)) q8.2))))
      else
        k94  M)
theorem ok_r_yearGoes_L2 {X : Nat × (Nat → Int32)} {d : Nat} {k94 : I_M → Option I_M} (hd : 2 ≤ d + 1) (hk94 : ∀ (M : I_M) (r : I_M), k94 M = some r → I_RnE (I_Ex d) i_c240 (94, [some (.ref 50), none, none, none], [], i_S X M) none (i_S X r)) : ∀ (n : Nat) (l1 : Int32) (M : I_M) (r : I_M), r_yearGoes_L2 k94 n l1 M = some r → I_RnE (I_Ex d) i_c240 (2, [some (.ref 50), some (.int l1), none, none], [], i_S X M) none (i_S X r) := by
  intro n
  induction n with
  | zero => intro _ M r h; cases h
  | succ n hself =>
    intro l1 M r h
    rw [r_yearGoes_L2] at h
    refine i_rs 3 (cf' := (7, [some (.ref 50), some (.int l1), none, none], [.int (M.1 50 8), .int l1], i_S X M)) rfl ?_
    by_cases c7 : l1 < (M.1 50 8)
    · replace h := (if_pos c7).symm.trans h
      refine i_rbT (c := l1 < (M.1 50 8)) (t := 10) (n := 94) rfl c7 ?_
      refine i_rs 1 (cf' := (11, [some (.ref 50), some (.int l1), none, none], [.ref 50], i_S X M)) rfl ?_
      obtain ⟨q8, hq8, h⟩ := i_bdE h
      refine i_rcall (k := 241) (as := [.ref 50]) (cf1 := (14, [some (.ref 50), some (.int l1), none, none], [], i_S X M)) (cf' := (14, [some (.ref 50), some (.int l1), none, none], [.int q8.1], i_S X q8.2)) rfl (ok_r_draws (by omega) hq8) rfl ?_
      refine i_rs 6 (cf' := (23, [some (.ref 50), some (.int l1), some (.int q8.1), none], [.int ((50 : Int32) + l1), .ref 51], i_S X q8.2)) rfl ?_
      obtain ⟨g9, h⟩ := i_gE h
      refine i_riald (n := 60) (cf' := (24, [some (.ref 50), some (.int l1), some (.int q8.1), none], [.int (q8.2.1 51 (Int32.toNatClampNeg ((50 : Int32) + l1)))], i_S X q8.2)) rfl rfl (by decide) g9 rfl ?_
      refine i_rs 5 (cf' := (32, [some (.ref 50), some (.int l1), some (.int q8.1), some (.int (q8.2.1 51 (Int32.toNatClampNeg ((50 : Int32) + l1))))], [.int (56 : Int32), .ref 51, .int q8.1], i_S X q8.2)) rfl ?_
      refine i_riald (n := 60) (cf' := (33, [some (.ref 50), some (.int l1), some (.int q8.1), some (.int (q8.2.1 51 (Int32.toNatClampNeg ((50 : Int32) + l1))))], [.int (q8.2.1 51 56), .int q8.1], i_S X q8.2)) rfl rfl (by decide) (by decide) rfl ?_
      by_cases c10 : q8.1 < (q8.2.1 51 56)
      · replace h := (if_pos c10).symm.trans h
        refine i_rbT (c := q8.1 < (q8.2.1 51 56)) (t := 36) (n := 62) rfl c10 ?_
        refine i_rs 7 (cf' := (47, [some (.ref 50), some (.int l1), some (.int q8.1), some (.int (q8.2.1 51 (Int32.toNatClampNeg ((50 : Int32) + l1))))], [.int (9 : Int32), .int (q8.2.1 51 (Int32.toNatClampNeg ((50 : Int32) + l1))), .int ((50 : Int32) + l1), .ref 51], i_S X q8.2)) rfl ?_
        by_cases c11 : (q8.2.1 51 (Int32.toNatClampNeg ((50 : Int32) + l1))) < (9 : Int32)
        · replace h := (if_pos c11).symm.trans h
          refine i_rbT (c := (q8.2.1 51 (Int32.toNatClampNeg ((50 : Int32) + l1))) < (9 : Int32)) (t := 50) (n := 56) rfl c11 ?_
          refine i_rs 4 (cf' := (58, [some (.ref 50), some (.int l1), some (.int q8.1), some (.int (q8.2.1 51 (Int32.toNatClampNeg ((50 : Int32) + l1))))], [.int ((q8.2.1 51 (Int32.toNatClampNeg ((50 : Int32) + l1))) + (1 : Int32)), .int ((50 : Int32) + l1), .ref 51], i_S X q8.2)) rfl ?_
          refine i_riast (n := 60) (cf' := (59, [some (.ref 50), some (.int l1), some (.int q8.1), some (.int (q8.2.1 51 (Int32.toNatClampNeg ((50 : Int32) + l1))))], [], i_S X (i_wI q8.2 51 (Int32.toNatClampNeg ((50 : Int32) + l1)) ((q8.2.1 51 (Int32.toNatClampNeg ((50 : Int32) + l1))) + (1 : Int32))))) rfl rfl (Or.inl rfl) g9 rfl ?_
          refine i_rs 3 (cf' := (2, [some (.ref 50), some (.int (l1 + (1 : Int32))), some (.int q8.1), some (.int (q8.2.1 51 (Int32.toNatClampNeg ((50 : Int32) + l1))))], [], i_S X (i_wI q8.2 51 (Int32.toNatClampNeg ((50 : Int32) + l1)) ((q8.2.1 51 (Int32.toNatClampNeg ((50 : Int32) + l1))) + (1 : Int32))))) rfl ?_
          refine i_fg (lv' := [some (.ref 50), some (.int (l1 + (1 : Int32))), none, none]) (And.intro rfl (And.intro rfl True.intro)) ?_
          exact hself (l1 + (1 : Int32)) (i_wI q8.2 51 (Int32.toNatClampNeg ((50 : Int32) + l1)) ((q8.2.1 51 (Int32.toNatClampNeg ((50 : Int32) + l1))) + (1 : Int32))) _ h
        · replace h := (if_neg c11).symm.trans h
          refine i_rbF (c := (q8.2.1 51 (Int32.toNatClampNeg ((50 : Int32) + l1))) < (9 : Int32)) (t := 50) (n := 56) rfl c11 ?_
          refine i_rs 1 (cf' := (58, [some (.ref 50), some (.int l1), some (.int q8.1), some (.int (q8.2.1 51 (Int32.toNatClampNeg ((50 : Int32) + l1))))], [.int (9 : Int32), .int ((50 : Int32) + l1), .ref 51], i_S X q8.2)) rfl ?_
          refine i_riast (n := 60) (cf' := (59, [some (.ref 50), some (.int l1), some (.int q8.1), some (.int (q8.2.1 51 (Int32.toNatClampNeg ((50 : Int32) + l1))))], [], i_S X (i_wI q8.2 51 (Int32.toNatClampNeg ((50 : Int32) + l1)) (9 : Int32)))) rfl rfl (Or.inl rfl) g9 rfl ?_
          refine i_rs 3 (cf' := (2, [some (.ref 50), some (.int (l1 + (1 : Int32))), some (.int q8.1), some (.int (q8.2.1 51 (Int32.toNatClampNeg ((50 : Int32) + l1))))], [], i_S X (i_wI q8.2 51 (Int32.toNatClampNeg ((50 : Int32) + l1)) (9 : Int32)))) rfl ?_
          refine i_fg (lv' := [some (.ref 50), some (.int (l1 + (1 : Int32))), none, none]) (And.intro rfl (And.intro rfl True.intro)) ?_
          exact hself (l1 + (1 : Int32)) (i_wI q8.2 51 (Int32.toNatClampNeg ((50 : Int32) + l1)) (9 : Int32)) _ h
      · replace h := (if_neg c10).symm.trans h
        refine i_rbF (c := q8.1 < (q8.2.1 51 56)) (t := 36) (n := 62) rfl c10 ?_
        refine i_rs 2 (cf' := (65, [some (.ref 50), some (.int l1), some (.int q8.1), some (.int (q8.2.1 51 (Int32.toNatClampNeg ((50 : Int32) + l1))))], [.int (10 : Int32), .int q8.1], i_S X q8.2)) rfl ?_
        by_cases c12 : (10 : Int32) < q8.1
        · replace h := (if_pos c12).symm.trans h
          refine i_rbT (c := (10 : Int32) < q8.1) (t := 68) (n := 88) rfl c12 ?_
          refine i_rs 6 (cf' := (77, [some (.ref 50), some (.int l1), some (.int q8.1), some (.int (q8.2.1 51 (Int32.toNatClampNeg ((50 : Int32) + l1))))], [.int (q8.2.1 51 (Int32.toNatClampNeg ((50 : Int32) + l1))), .int ((50 : Int32) + l1), .ref 51], i_S X q8.2)) rfl ?_
          by_cases c13 : (0 : Int32) < (q8.2.1 51 (Int32.toNatClampNeg ((50 : Int32) + l1)))
          · replace h := (if_pos c13).symm.trans h
            refine i_rbT (c := (0 : Int32) < (q8.2.1 51 (Int32.toNatClampNeg ((50 : Int32) + l1)))) (t := 80) (n := 86) rfl c13 ?_
            refine i_rs 4 (cf' := (87, [some (.ref 50), some (.int l1), some (.int q8.1), some (.int (q8.2.1 51 (Int32.toNatClampNeg ((50 : Int32) + l1))))], [.int ((q8.2.1 51 (Int32.toNatClampNeg ((50 : Int32) + l1))) - (1 : Int32)), .int ((50 : Int32) + l1), .ref 51], i_S X q8.2)) rfl ?_
            refine i_riast (n := 60) (cf' := (88, [some (.ref 50), some (.int l1), some (.int q8.1), some (.int (q8.2.1 51 (Int32.toNatClampNeg ((50 : Int32) + l1))))], [], i_S X (i_wI q8.2 51 (Int32.toNatClampNeg ((50 : Int32) + l1)) ((q8.2.1 51 (Int32.toNatClampNeg ((50 : Int32) + l1))) - (1 : Int32))))) rfl rfl (Or.inl rfl) g9 rfl ?_
            refine i_rs 2 (cf' := (2, [some (.ref 50), some (.int (l1 + (1 : Int32))), some (.int q8.1), some (.int (q8.2.1 51 (Int32.toNatClampNeg ((50 : Int32) + l1))))], [], i_S X (i_wI q8.2 51 (Int32.toNatClampNeg ((50 : Int32) + l1)) ((q8.2.1 51 (Int32.toNatClampNeg ((50 : Int32) + l1))) - (1 : Int32))))) rfl ?_
            refine i_fg (lv' := [some (.ref 50), some (.int (l1 + (1 : Int32))), none, none]) (And.intro rfl (And.intro rfl True.intro)) ?_
            exact hself (l1 + (1 : Int32)) (i_wI q8.2 51 (Int32.toNatClampNeg ((50 : Int32) + l1)) ((q8.2.1 51 (Int32.toNatClampNeg ((50 : Int32) + l1))) - (1 : Int32))) _ h
          · replace h := (if_neg c13).symm.trans h
            refine i_rbF (c := (0 : Int32) < (q8.2.1 51 (Int32.toNatClampNeg ((50 : Int32) + l1)))) (t := 80) (n := 86) rfl c13 ?_
            refine i_rs 1 (cf' := (87, [some (.ref 50), some (.int l1), some (.int q8.1), some (.int (q8.2.1 51 (Int32.toNatClampNeg ((50 : Int32) + l1))))], [.int (0 : Int32), .int ((50 : Int32) + l1), .ref 51], i_S X q8.2)) rfl ?_
            refine i_riast (n := 60) (cf' := (88, [some (.ref 50), some (.int l1), some (.int q8.1), some (.int (q8.2.1 51 (Int32.toNatClampNeg ((50 : Int32) + l1))))], [], i_S X (i_wI q8.2 51 (Int32.toNatClampNeg ((50 : Int32) + l1)) (0 : Int32)))) rfl rfl (Or.inl rfl) g9 rfl ?_
            refine i_rs 2 (cf' := (2, [some (.ref 50), some (.int (l1 + (1 : Int32))), some (.int q8.1), some (.int (q8.2.1 51 (Int32.toNatClampNeg ((50 : Int32) + l1))))], [], i_S X (i_wI q8.2 51 (Int32.toNatClampNeg ((50 : Int32) + l1)) (0 : Int32)))) rfl ?_
            refine i_fg (lv' := [some (.ref 50), some (.int (l1 + (1 : Int32))), none, none]) (And.intro rfl (And.intro rfl True.intro)) ?_
            exact hself (l1 + (1 : Int32)) (i_wI q8.2 51 (Int32.toNatClampNeg ((50 : Int32) + l1)) (0 : Int32)) _ h
        · replace h := (if_neg c12).symm.trans h
          refine i_rbF (c := (10 : Int32) < q8.1) (t := 68) (n := 88) rfl c12 ?_
          refine i_rs 2 (cf' := (2, [some (.ref 50), some (.int (l1 + (1 : Int32))), some (.int q8.1), some (.int (q8.2.1 51 (Int32.toNatClampNeg ((50 : Int32) + l1))))], [], i_S X q8.2)) rfl ?_
          refine i_fg (lv' := [some (.ref 50), some (.int (l1 + (1 : Int32))), none, none]) (And.intro rfl (And.intro rfl True.intro)) ?_
          exact hself (l1 + (1 : Int32)) q8.2 _ h
    · replace h := (if_neg c7).symm.trans h
      refine i_rbF (c := l1 < (M.1 50 8)) (t := 10) (n := 94) rfl c7 ?_
      refine i_fg (lv' := [some (.ref 50), none, none, none]) (And.intro rfl True.intro) ?_
      exact hk94  M _ h
def r_yearGoes (M : I_M) : Option I_M :=
  r_yearGoes_L2 (fun M14 =>
        r_yearGoes_L96 i_F (0 : Int32) M14) i_F (0 : Int32) M
theorem ok_r_yearGoes {X : Nat × (Nat → Int32)} {d : Nat} {M : I_M} {r : I_M} (hd : 2 ≤ d) (h : r_yearGoes M = some r) : I_Ex d 240 [.ref 50] (i_S X M) none (i_S X r) := by
  obtain ⟨d, rfl⟩ : ∃ d1, d = d1 + 1 := ⟨d - 1, by omega⟩
  unfold r_yearGoes at h
  refine i_ex (e := i_r240) (lv := [some (.ref 50), none, none, none]) rfl (Nat.le_of_ble_eq_true rfl) rfl ?_
  show I_RnE (I_Ex d) i_c240 (0, [some (.ref 50), none, none, none], [], i_S X M) _ _
  refine i_rs 2 (cf' := (2, [some (.ref 50), some (.int (0 : Int32)), none, none], [], i_S X M)) rfl ?_
  refine i_fg (lv' := [some (.ref 50), some (.int (0 : Int32)), none, none]) (And.intro rfl (And.intro rfl True.intro)) ?_
  refine ok_r_yearGoes_L2 (by omega) (fun M14 r h => ?_) i_F (0 : Int32) M _ h
  refine i_rs 2 (cf' := (96, [some (.ref 50), some (.int (0 : Int32)), none, none], [], i_S X M14)) rfl ?_
  refine i_fg (lv' := [some (.ref 50), some (.int (0 : Int32)), none, none]) (And.intro rfl (And.intro rfl True.intro)) ?_
  refine ok_r_yearGoes_L96 (by omega) i_F (0 : Int32) M14 _ h
def r_years_L41 : Nat → Int32 → Int32 → I_M → Option (Int32 × I_M)
  | 0, _, _, _ => none
  | n + 1, l3, l4, M =>
    (if l4 < (M.1 50 8) then
        i_g ((50 : Int32) + l4) 60 ((r_years_L41 n) (l3 + (M.1 51 (Int32.toNatClampNeg ((50 : Int32) + l4)))) (l4 + (1 : Int32)) M)
      else
        some (l3, M))
theorem ok_r_years_L41 {X : Nat × (Nat → Int32)} {d : Nat} (hd : 3 ≤ d + 1) : ∀ (n : Nat) (l3 : Int32) (l4 : Int32) (M : I_M) (r : (Int32 × I_M)), r_years_L41 n l3 l4 M = some r → I_RnE (I_Ex d) i_c239 (41, [some (.ref 50), none, none, some (.int l3), some (.int l4)], [], i_S X M) (some (.int r.1)) (i_S X r.2) := by
  intro n
  induction n with
  | zero => intro _ _ M r h; cases h
  | succ n hself =>
    intro l3 l4 M r h
    rw [r_years_L41] at h
    refine i_rs 3 (cf' := (47, [some (.ref 50), none, none, some (.int l3), some (.int l4)], [.int (M.1 50 8), .int l4], i_S X M)) rfl ?_
    by_cases c1 : l4 < (M.1 50 8)
    · replace h := (if_pos c1).symm.trans h
      refine i_rbT (c := l4 < (M.1 50 8)) (t := 50) (n := 69) rfl c1 ?_
      refine i_rs 6 (cf' := (60, [some (.ref 50), none, none, some (.int l3), some (.int l4)], [.int ((50 : Int32) + l4), .ref 51, .int l3], i_S X M)) rfl ?_
      obtain ⟨g2, h⟩ := i_gE h
      refine i_riald (n := 60) (cf' := (61, [some (.ref 50), none, none, some (.int l3), some (.int l4)], [.int (M.1 51 (Int32.toNatClampNeg ((50 : Int32) + l4))), .int l3], i_S X M)) rfl rfl (by decide) g2 rfl ?_
      refine i_rs 4 (cf' := (41, [some (.ref 50), none, none, some (.int (l3 + (M.1 51 (Int32.toNatClampNeg ((50 : Int32) + l4))))), some (.int (l4 + (1 : Int32)))], [], i_S X M)) rfl ?_
      refine i_fg (lv' := [some (.ref 50), none, none, some (.int (l3 + (M.1 51 (Int32.toNatClampNeg ((50 : Int32) + l4))))), some (.int (l4 + (1 : Int32)))]) (And.intro rfl (And.intro rfl (And.intro rfl True.intro))) ?_
      exact hself (l3 + (M.1 51 (Int32.toNatClampNeg ((50 : Int32) + l4)))) (l4 + (1 : Int32)) M _ h
    · replace h := (if_neg c1).symm.trans h
      refine i_rbF (c := l4 < (M.1 50 8)) (t := 50) (n := 69) rfl c1 ?_
      refine i_rs 1 (cf' := (70, [some (.ref 50), none, none, some (.int l3), some (.int l4)], [.int l3], i_S X M)) rfl ?_
      obtain rfl := Option.some.inj h
      exact i_rret rfl rfl
def r_years_L21 (l2 : Int32) (k36 : I_M → Option (Int32 × I_M)) : Nat → Int32 → I_M → Option (Int32 × I_M)
  | 0, _, _ => none
  | n + 1, l3, M =>
    (if l3 < l2 then
        Option.bind (r_yearGoes M) (fun q4 => (r_years_L21 l2 k36 n) (l3 + (1 : Int32)) q4)
      else
        k36  M)
theorem ok_r_years_L21 {X : Nat × (Nat → Int32)} {d : Nat} {l2 : Int32} {k36 : I_M → Option (Int32 × I_M)} (hd : 3 ≤ d + 1) (hk36 : ∀ (M : I_M) (r : (Int32 × I_M)), k36 M = some r → I_RnE (I_Ex d) i_c239 (36, [some (.ref 50), none, none, none, none], [], i_S X M) (some (.int r.1)) (i_S X r.2)) : ∀ (n : Nat) (l3 : Int32) (M : I_M) (r : (Int32 × I_M)), r_years_L21 l2 k36 n l3 M = some r → I_RnE (I_Ex d) i_c239 (21, [some (.ref 50), none, some (.int l2), some (.int l3), none], [], i_S X M) (some (.int r.1)) (i_S X r.2) := by
  intro n
  induction n with
  | zero => intro _ M r h; cases h
  | succ n hself =>
    intro l3 M r h
    rw [r_years_L21] at h
    refine i_rs 2 (cf' := (23, [some (.ref 50), none, some (.int l2), some (.int l3), none], [.int l2, .int l3], i_S X M)) rfl ?_
    by_cases c3 : l3 < l2
    · replace h := (if_pos c3).symm.trans h
      refine i_rbT (c := l3 < l2) (t := 26) (n := 36) rfl c3 ?_
      refine i_rs 1 (cf' := (27, [some (.ref 50), none, some (.int l2), some (.int l3), none], [.ref 50], i_S X M)) rfl ?_
      obtain ⟨q4, hq4, h⟩ := i_bdE h
      refine i_rcall (k := 240) (as := [.ref 50]) (cf1 := (30, [some (.ref 50), none, some (.int l2), some (.int l3), none], [], i_S X M)) (cf' := (30, [some (.ref 50), none, some (.int l2), some (.int l3), none], [], i_S X q4)) rfl (ok_r_yearGoes (by omega) hq4) rfl ?_
      refine i_rs 2 (cf' := (21, [some (.ref 50), none, some (.int l2), some (.int (l3 + (1 : Int32))), none], [], i_S X q4)) rfl ?_
      refine i_fg (lv' := [some (.ref 50), none, some (.int l2), some (.int (l3 + (1 : Int32))), none]) (And.intro rfl (And.intro rfl (And.intro rfl True.intro))) ?_
      exact hself (l3 + (1 : Int32)) q4 _ h
    · replace h := (if_neg c3).symm.trans h
      refine i_rbF (c := l3 < l2) (t := 26) (n := 36) rfl c3 ?_
      refine i_fg (lv' := [some (.ref 50), none, none, none, none]) (And.intro rfl True.intro) ?_
      exact hk36  M _ h
def r_years (l1 : Int32) (l2 : Int32) (M : I_M) : Option (Int32 × I_M) :=
  Option.bind (r_within (Int32.toInt64 l2) (1 : Int64) (30 : Int64) M) (fun q5 => (if q5.1 = (0 : Int32) then
      some ((-1 : Int32), q5.2)
    else
      r_years_L21 l2 (fun M7 =>
          r_years_L41 i_F (0 : Int32) (0 : Int32) M7) i_F (0 : Int32) (i_wI q5.2 50 40 l1)))
theorem ok_r_years {X : Nat × (Nat → Int32)} {d : Nat} {l1 : Int32} {l2 : Int32} {M : I_M} {r : (Int32 × I_M)} (hd : 3 ≤ d) (h : r_years l1 l2 M = some r) : I_Ex d 239 [.ref 50, .int l1, .int l2] (i_S X M) (some (.int r.1)) (i_S X r.2) := by
  obtain ⟨d, rfl⟩ : ∃ d1, d = d1 + 1 := ⟨d - 1, by omega⟩
  unfold r_years at h
  refine i_ex (e := i_r239) (lv := [some (.ref 50), some (.int l1), some (.int l2), none, none]) rfl (Nat.le_of_ble_eq_true rfl) rfl ?_
  show I_RnE (I_Ex d) i_c239 (0, [some (.ref 50), some (.int l1), some (.int l2), none, none], [], i_S X M) _ _
  refine i_rs 4 (cf' := (6, [some (.ref 50), some (.int l1), some (.int l2), none, none], [.long (30 : Int64), .long (1 : Int64), .long (Int32.toInt64 l2)], i_S X M)) rfl ?_
  obtain ⟨q5, hq5, h⟩ := i_bdE h
  refine i_rcall (k := 175) (as := [.long (Int32.toInt64 l2), .long (1 : Int64), .long (30 : Int64)]) (cf1 := (9, [some (.ref 50), some (.int l1), some (.int l2), none, none], [], i_S X M)) (cf' := (9, [some (.ref 50), some (.int l1), some (.int l2), none, none], [.int q5.1], i_S X q5.2)) rfl (ok_r_within (by omega) hq5) rfl ?_
  by_cases c6 : q5.1 = (0 : Int32)
  · replace h := (if_pos c6).symm.trans h
    refine i_rbT (c := q5.1 = (0 : Int32)) (t := 12) (n := 14) rfl c6 ?_
    refine i_rs 1 (cf' := (13, [some (.ref 50), some (.int l1), some (.int l2), none, none], [.int (-1 : Int32)], i_S X q5.2)) rfl ?_
    obtain rfl := Option.some.inj h
    exact i_rret rfl rfl
  · replace h := (if_neg c6).symm.trans h
    refine i_rbF (c := q5.1 = (0 : Int32)) (t := 12) (n := 14) rfl c6 ?_
    refine i_rs 5 (cf' := (21, [some (.ref 50), some (.int l1), some (.int l2), some (.int (0 : Int32)), none], [], i_S X (i_wI q5.2 50 40 l1))) rfl ?_
    refine i_fg (lv' := [some (.ref 50), none, some (.int l2), some (.int (0 : Int32)), none]) (And.intro rfl (And.intro rfl (And.intro rfl True.intro))) ?_
    refine ok_r_years_L21 (by omega) (fun M7 r h => ?_) i_F (0 : Int32) (i_wI q5.2 50 40 l1) _ h
    refine i_rs 4 (cf' := (41, [some (.ref 50), none, none, some (.int (0 : Int32)), some (.int (0 : Int32))], [], i_S X M7)) rfl ?_
    refine i_fg (lv' := [some (.ref 50), none, none, some (.int (0 : Int32)), some (.int (0 : Int32))]) (And.intro rfl (And.intro rfl (And.intro rfl True.intro))) ?_
    refine ok_r_years_L41 (by omega) i_F (0 : Int32) (0 : Int32) M7 _ h
def b_Buried_digUp (l1 : Int32) (l2 : Int32) (M : I_M) : Option (Int32 × I_M) :=
  i_g l1 25 (Option.bind (b_Buried_inCell l1 (i_wI M 13 8 ((M.1 13 8) + (M.1 5 (Int32.toNatClampNeg l1))))) (fun q2 => (if q2.1 = (-2 : Int32) then
      some ((-2 : Int32), q2.2)
    else
      Option.bind (b_Buried_isFound q2.1 q2.2) (fun q4 => (if q4.1 = (0 : Int32) then
        i_g q2.1 6 ((if l2 < (q4.2.1 16 (Int32.toNatClampNeg q2.1)) then
          some ((-2 : Int32), q4.2)
        else
          some (q2.1, (i_wI q4.2 13 7 ((q4.2.1 13 7) ||| ((1 : Int32) <<< (q2.1 &&& 31)))))))
      else
        some ((-2 : Int32), q4.2))))))
theorem ok_b_Buried_digUp {X : Nat × (Nat → Int32)} {d : Nat} {l1 : Int32} {l2 : Int32} {M : I_M} {r : (Int32 × I_M)} (hd : 2 ≤ d) (h : b_Buried_digUp l1 l2 M = some r) : I_Ex d 131 [.ref 13, .int l1, .int l2] (i_S X M) (some (.int r.1)) (i_S X r.2) := by
  obtain ⟨d, rfl⟩ : ∃ d1, d = d1 + 1 := ⟨d - 1, by omega⟩
  unfold b_Buried_digUp at h
  refine i_ex (e := i_r131) (lv := [some (.ref 13), some (.int l1), some (.int l2), none]) rfl (Nat.le_of_ble_eq_true rfl) rfl ?_
  show I_RnE (I_Ex d) i_c131 (0, [some (.ref 13), some (.int l1), some (.int l2), none], [], i_S X M) _ _
  refine i_rs 7 (cf' := (13, [some (.ref 13), some (.int l1), some (.int l2), none], [.int l1, .ref 5, .int (M.1 13 8), .ref 13], i_S X M)) rfl ?_
  obtain ⟨g1, h⟩ := i_gE h
  refine i_riald (n := 25) (cf' := (14, [some (.ref 13), some (.int l1), some (.int l2), none], [.int (M.1 5 (Int32.toNatClampNeg l1)), .int (M.1 13 8), .ref 13], i_S X M)) rfl rfl (by decide) g1 rfl ?_
  refine i_rs 4 (cf' := (20, [some (.ref 13), some (.int l1), some (.int l2), none], [.int l1, .ref 13], i_S X (i_wI M 13 8 ((M.1 13 8) + (M.1 5 (Int32.toNatClampNeg l1)))))) rfl ?_
  obtain ⟨q2, hq2, h⟩ := i_bdE h
  refine i_rcall (k := 22) (as := [.ref 13, .int l1]) (cf1 := (23, [some (.ref 13), some (.int l1), some (.int l2), none], [], i_S X (i_wI M 13 8 ((M.1 13 8) + (M.1 5 (Int32.toNatClampNeg l1)))))) (cf' := (23, [some (.ref 13), some (.int l1), some (.int l2), none], [.int q2.1], i_S X q2.2)) rfl (ok_b_Buried_inCell (by omega) hq2) rfl ?_
  refine i_rs 3 (cf' := (27, [some (.ref 13), some (.int l1), some (.int l2), some (.int q2.1)], [.int (-2 : Int32), .int q2.1], i_S X q2.2)) rfl ?_
  by_cases c3 : q2.1 = (-2 : Int32)
  · replace h := (if_pos c3).symm.trans h
    refine i_rbT (c := q2.1 = (-2 : Int32)) (t := 48) (n := 30) rfl c3 ?_
    refine i_rs 1 (cf' := (50, [some (.ref 13), some (.int l1), some (.int l2), some (.int q2.1)], [.int (-2 : Int32)], i_S X q2.2)) rfl ?_
    obtain rfl := Option.some.inj h
    exact i_rret rfl rfl
  · replace h := (if_neg c3).symm.trans h
    refine i_rbF (c := q2.1 = (-2 : Int32)) (t := 48) (n := 30) rfl c3 ?_
    refine i_rs 2 (cf' := (32, [some (.ref 13), some (.int l1), some (.int l2), some (.int q2.1)], [.int q2.1, .ref 13], i_S X q2.2)) rfl ?_
    obtain ⟨q4, hq4, h⟩ := i_bdE h
    refine i_rcall (k := 38) (as := [.ref 13, .int q2.1]) (cf1 := (35, [some (.ref 13), some (.int l1), some (.int l2), some (.int q2.1)], [], i_S X q2.2)) (cf' := (35, [some (.ref 13), some (.int l1), some (.int l2), some (.int q2.1)], [.int q4.1], i_S X q4.2)) rfl (ok_b_Buried_isFound (by omega) hq4) rfl ?_
    by_cases c5 : q4.1 = (0 : Int32)
    · replace h := (if_pos c5).symm.trans h
      refine i_rbT (c := q4.1 = (0 : Int32)) (t := 38) (n := 48) rfl c5 ?_
      refine i_rs 3 (cf' := (43, [some (.ref 13), some (.int l1), some (.int l2), some (.int q2.1)], [.int q2.1, .ref 16], i_S X q4.2)) rfl ?_
      obtain ⟨g6, h⟩ := i_gE h
      refine i_riald (n := 6) (cf' := (44, [some (.ref 13), some (.int l1), some (.int l2), some (.int q2.1)], [.int (q4.2.1 16 (Int32.toNatClampNeg q2.1))], i_S X q4.2)) rfl rfl (by decide) g6 rfl ?_
      refine i_rs 1 (cf' := (45, [some (.ref 13), some (.int l1), some (.int l2), some (.int q2.1)], [.int l2, .int (q4.2.1 16 (Int32.toNatClampNeg q2.1))], i_S X q4.2)) rfl ?_
      by_cases c7 : l2 < (q4.2.1 16 (Int32.toNatClampNeg q2.1))
      · replace h := (if_pos c7).symm.trans h
        refine i_rbT (c := l2 < (q4.2.1 16 (Int32.toNatClampNeg q2.1))) (t := 48) (n := 51) rfl c7 ?_
        refine i_rs 1 (cf' := (50, [some (.ref 13), some (.int l1), some (.int l2), some (.int q2.1)], [.int (-2 : Int32)], i_S X q4.2)) rfl ?_
        obtain rfl := Option.some.inj h
        exact i_rret rfl rfl
      · replace h := (if_neg c7).symm.trans h
        refine i_rbF (c := l2 < (q4.2.1 16 (Int32.toNatClampNeg q2.1))) (t := 48) (n := 51) rfl c7 ?_
        refine i_rs 9 (cf' := (64, [some (.ref 13), some (.int l1), some (.int l2), some (.int q2.1)], [.int q2.1], i_S X (i_wI q4.2 13 7 ((q4.2.1 13 7) ||| ((1 : Int32) <<< (q2.1 &&& 31)))))) rfl ?_
        obtain rfl := Option.some.inj h
        exact i_rret rfl rfl
    · replace h := (if_neg c5).symm.trans h
      refine i_rbF (c := q4.1 = (0 : Int32)) (t := 38) (n := 48) rfl c5 ?_
      refine i_rs 1 (cf' := (50, [some (.ref 13), some (.int l1), some (.int l2), some (.int q2.1)], [.int (-2 : Int32)], i_S X q4.2)) rfl ?_
      obtain rfl := Option.some.inj h
      exact i_rret rfl rfl
def b_dug (l1 : Int32) (l2 : Int32) (M : I_M) : Option (Int32 × I_M) :=
  Option.bind (b_Land_has l1 M) (fun q1 => (if q1.1 = (0 : Int32) then
      some ((-1 : Int32), q1.2)
    else
      (if l2 < (0 : Int32) then
        some ((-1 : Int32), q1.2)
      else
        (if (9 : Int32) < l2 then
          some ((-1 : Int32), q1.2)
        else
          Option.bind (b_Buried_digUp l1 l2 q1.2) (fun q5 => some (q5.1, q5.2))))))
theorem ok_b_dug {X : Nat × (Nat → Int32)} {d : Nat} {l1 : Int32} {l2 : Int32} {M : I_M} {r : (Int32 × I_M)} (hd : 3 ≤ d) (h : b_dug l1 l2 M = some r) : I_Ex d 130 [.ref 0, .int l1, .int l2] (i_S X M) (some (.int r.1)) (i_S X r.2) := by
  obtain ⟨d, rfl⟩ : ∃ d1, d = d1 + 1 := ⟨d - 1, by omega⟩
  unfold b_dug at h
  refine i_ex (e := i_r130) (lv := [some (.ref 0), some (.int l1), some (.int l2)]) rfl (Nat.le_of_ble_eq_true rfl) rfl ?_
  show I_RnE (I_Ex d) i_c130 (0, [some (.ref 0), some (.int l1), some (.int l2)], [], i_S X M) _ _
  refine i_rs 3 (cf' := (5, [some (.ref 0), some (.int l1), some (.int l2)], [.int l1, .ref 1], i_S X M)) rfl ?_
  obtain ⟨q1, hq1, h⟩ := i_bdE h
  refine i_rcall (k := 20) (as := [.ref 1, .int l1]) (cf1 := (8, [some (.ref 0), some (.int l1), some (.int l2)], [], i_S X M)) (cf' := (8, [some (.ref 0), some (.int l1), some (.int l2)], [.int q1.1], i_S X q1.2)) rfl (ok_b_Land_has (by omega) hq1) rfl ?_
  by_cases c2 : q1.1 = (0 : Int32)
  · replace h := (if_pos c2).symm.trans h
    refine i_rbT (c := q1.1 = (0 : Int32)) (t := 21) (n := 11) rfl c2 ?_
    refine i_rs 1 (cf' := (22, [some (.ref 0), some (.int l1), some (.int l2)], [.int (-1 : Int32)], i_S X q1.2)) rfl ?_
    obtain rfl := Option.some.inj h
    exact i_rret rfl rfl
  · replace h := (if_neg c2).symm.trans h
    refine i_rbF (c := q1.1 = (0 : Int32)) (t := 21) (n := 11) rfl c2 ?_
    refine i_rs 1 (cf' := (12, [some (.ref 0), some (.int l1), some (.int l2)], [.int l2], i_S X q1.2)) rfl ?_
    by_cases c3 : l2 < (0 : Int32)
    · replace h := (if_pos c3).symm.trans h
      refine i_rbT (c := l2 < (0 : Int32)) (t := 21) (n := 15) rfl c3 ?_
      refine i_rs 1 (cf' := (22, [some (.ref 0), some (.int l1), some (.int l2)], [.int (-1 : Int32)], i_S X q1.2)) rfl ?_
      obtain rfl := Option.some.inj h
      exact i_rret rfl rfl
    · replace h := (if_neg c3).symm.trans h
      refine i_rbF (c := l2 < (0 : Int32)) (t := 21) (n := 15) rfl c3 ?_
      refine i_rs 2 (cf' := (18, [some (.ref 0), some (.int l1), some (.int l2)], [.int (9 : Int32), .int l2], i_S X q1.2)) rfl ?_
      by_cases c4 : (9 : Int32) < l2
      · replace h := (if_pos c4).symm.trans h
        refine i_rbT (c := (9 : Int32) < l2) (t := 21) (n := 23) rfl c4 ?_
        refine i_rs 1 (cf' := (22, [some (.ref 0), some (.int l1), some (.int l2)], [.int (-1 : Int32)], i_S X q1.2)) rfl ?_
        obtain rfl := Option.some.inj h
        exact i_rret rfl rfl
      · replace h := (if_neg c4).symm.trans h
        refine i_rbF (c := (9 : Int32) < l2) (t := 21) (n := 23) rfl c4 ?_
        refine i_rs 4 (cf' := (29, [some (.ref 0), some (.int l1), some (.int l2)], [.int l2, .int l1, .ref 13], i_S X q1.2)) rfl ?_
        obtain ⟨q5, hq5, h⟩ := i_bdE h
        refine i_rcall (k := 131) (as := [.ref 13, .int l1, .int l2]) (cf1 := (32, [some (.ref 0), some (.int l1), some (.int l2)], [], i_S X q1.2)) (cf' := (32, [some (.ref 0), some (.int l1), some (.int l2)], [.int q5.1], i_S X q5.2)) rfl (ok_b_Buried_digUp (by omega) hq5) rfl ?_
        obtain rfl := Option.some.inj h
        exact i_rret rfl rfl
def r_dug_L42 (l1 : Int32) (l2 : Int32) (k84 : Int32 → I_M → Option (Int32 × I_M)) : Nat → Int32 → I_M → Option (Int32 × I_M)
  | 0, _, _ => none
  | n + 1, l3, M =>
    (if l3 < (M.1 50 8) then
        i_g l3 6 ((if (M.1 55 (Int32.toNatClampNeg l3)) = l1 then
          Option.bind (r_isIn (M.1 50 12) l3 M) (fun q4 => (if q4.1 = (0 : Int32) then
            i_g ((50 : Int32) + l3) 60 ((if l2 < (q4.2.1 51 (Int32.toNatClampNeg ((50 : Int32) + l3))) then
              (r_dug_L42 l1 l2 k84 n) (l3 + (1 : Int32)) q4.2
            else
              k84 l3 q4.2))
          else
            (r_dug_L42 l1 l2 k84 n) (l3 + (1 : Int32)) q4.2))
        else
          (r_dug_L42 l1 l2 k84 n) (l3 + (1 : Int32)) M))
      else
        some ((-2 : Int32), M))
theorem ok_r_dug_L42 {X : Nat × (Nat → Int32)} {d : Nat} {l1 : Int32} {l2 : Int32} {k84 : Int32 → I_M → Option (Int32 × I_M)} (hd : 3 ≤ d + 1) (hk84 : ∀ (l3 : Int32) (M : I_M) (r : (Int32 × I_M)), k84 l3 M = some r → I_RnE (I_Ex d) i_c242 (84, [some (.ref 50), none, none, some (.int l3)], [], i_S X M) (some (.int r.1)) (i_S X r.2)) : ∀ (n : Nat) (l3 : Int32) (M : I_M) (r : (Int32 × I_M)), r_dug_L42 l1 l2 k84 n l3 M = some r → I_RnE (I_Ex d) i_c242 (42, [some (.ref 50), some (.int l1), some (.int l2), some (.int l3)], [], i_S X M) (some (.int r.1)) (i_S X r.2) := by
  intro n
  induction n with
  | zero => intro _ M r h; cases h
  | succ n hself =>
    intro l3 M r h
    rw [r_dug_L42] at h
    refine i_rs 3 (cf' := (47, [some (.ref 50), some (.int l1), some (.int l2), some (.int l3)], [.int (M.1 50 8), .int l3], i_S X M)) rfl ?_
    by_cases c1 : l3 < (M.1 50 8)
    · replace h := (if_pos c1).symm.trans h
      refine i_rbT (c := l3 < (M.1 50 8)) (t := 50) (n := 104) rfl c1 ?_
      refine i_rs 3 (cf' := (55, [some (.ref 50), some (.int l1), some (.int l2), some (.int l3)], [.int l3, .ref 55], i_S X M)) rfl ?_
      obtain ⟨g2, h⟩ := i_gE h
      refine i_riald (n := 6) (cf' := (56, [some (.ref 50), some (.int l1), some (.int l2), some (.int l3)], [.int (M.1 55 (Int32.toNatClampNeg l3))], i_S X M)) rfl rfl (by decide) g2 rfl ?_
      refine i_rs 1 (cf' := (57, [some (.ref 50), some (.int l1), some (.int l2), some (.int l3)], [.int l1, .int (M.1 55 (Int32.toNatClampNeg l3))], i_S X M)) rfl ?_
      by_cases c3 : (M.1 55 (Int32.toNatClampNeg l3)) = l1
      · replace h := (if_pos c3).symm.trans h
        refine i_rbT (c := (M.1 55 (Int32.toNatClampNeg l3)) = l1) (t := 60) (n := 98) rfl c3 ?_
        refine i_rs 3 (cf' := (65, [some (.ref 50), some (.int l1), some (.int l2), some (.int l3)], [.int l3, .int (M.1 50 12)], i_S X M)) rfl ?_
        obtain ⟨q4, hq4, h⟩ := i_bdE h
        refine i_rcall (k := 188) (as := [.int (M.1 50 12), .int l3]) (cf1 := (68, [some (.ref 50), some (.int l1), some (.int l2), some (.int l3)], [], i_S X M)) (cf' := (68, [some (.ref 50), some (.int l1), some (.int l2), some (.int l3)], [.int q4.1], i_S X q4.2)) rfl (ok_r_isIn (by omega) hq4) rfl ?_
        by_cases c5 : q4.1 = (0 : Int32)
        · replace h := (if_pos c5).symm.trans h
          refine i_rbT (c := q4.1 = (0 : Int32)) (t := 71) (n := 98) rfl c5 ?_
          refine i_rs 5 (cf' := (79, [some (.ref 50), some (.int l1), some (.int l2), some (.int l3)], [.int ((50 : Int32) + l3), .ref 51], i_S X q4.2)) rfl ?_
          obtain ⟨g6, h⟩ := i_gE h
          refine i_riald (n := 60) (cf' := (80, [some (.ref 50), some (.int l1), some (.int l2), some (.int l3)], [.int (q4.2.1 51 (Int32.toNatClampNeg ((50 : Int32) + l3)))], i_S X q4.2)) rfl rfl (by decide) g6 rfl ?_
          refine i_rs 1 (cf' := (81, [some (.ref 50), some (.int l1), some (.int l2), some (.int l3)], [.int l2, .int (q4.2.1 51 (Int32.toNatClampNeg ((50 : Int32) + l3)))], i_S X q4.2)) rfl ?_
          by_cases c7 : l2 < (q4.2.1 51 (Int32.toNatClampNeg ((50 : Int32) + l3)))
          · replace h := (if_pos c7).symm.trans h
            refine i_rbT (c := l2 < (q4.2.1 51 (Int32.toNatClampNeg ((50 : Int32) + l3)))) (t := 98) (n := 84) rfl c7 ?_
            refine i_rs 2 (cf' := (42, [some (.ref 50), some (.int l1), some (.int l2), some (.int (l3 + (1 : Int32)))], [], i_S X q4.2)) rfl ?_
            refine i_fg (lv' := [some (.ref 50), some (.int l1), some (.int l2), some (.int (l3 + (1 : Int32)))]) (And.intro rfl (And.intro rfl (And.intro rfl (And.intro rfl True.intro)))) ?_
            exact hself (l3 + (1 : Int32)) q4.2 _ h
          · replace h := (if_neg c7).symm.trans h
            refine i_rbF (c := l2 < (q4.2.1 51 (Int32.toNatClampNeg ((50 : Int32) + l3)))) (t := 98) (n := 84) rfl c7 ?_
            refine i_fg (lv' := [some (.ref 50), none, none, some (.int l3)]) (And.intro rfl (And.intro rfl True.intro)) ?_
            exact hk84 l3 q4.2 _ h
        · replace h := (if_neg c5).symm.trans h
          refine i_rbF (c := q4.1 = (0 : Int32)) (t := 71) (n := 98) rfl c5 ?_
          refine i_rs 2 (cf' := (42, [some (.ref 50), some (.int l1), some (.int l2), some (.int (l3 + (1 : Int32)))], [], i_S X q4.2)) rfl ?_
          refine i_fg (lv' := [some (.ref 50), some (.int l1), some (.int l2), some (.int (l3 + (1 : Int32)))]) (And.intro rfl (And.intro rfl (And.intro rfl (And.intro rfl True.intro)))) ?_
          exact hself (l3 + (1 : Int32)) q4.2 _ h
      · replace h := (if_neg c3).symm.trans h
        refine i_rbF (c := (M.1 55 (Int32.toNatClampNeg l3)) = l1) (t := 60) (n := 98) rfl c3 ?_
        refine i_rs 2 (cf' := (42, [some (.ref 50), some (.int l1), some (.int l2), some (.int (l3 + (1 : Int32)))], [], i_S X M)) rfl ?_
        refine i_fg (lv' := [some (.ref 50), some (.int l1), some (.int l2), some (.int (l3 + (1 : Int32)))]) (And.intro rfl (And.intro rfl (And.intro rfl (And.intro rfl True.intro)))) ?_
        exact hself (l3 + (1 : Int32)) M _ h
    · replace h := (if_neg c1).symm.trans h
      refine i_rbF (c := l3 < (M.1 50 8)) (t := 50) (n := 104) rfl c1 ?_
      refine i_rs 1 (cf' := (106, [some (.ref 50), some (.int l1), some (.int l2), some (.int l3)], [.int (-2 : Int32)], i_S X M)) rfl ?_
      obtain rfl := Option.some.inj h
      exact i_rret rfl rfl
def r_dug (l1 : Int32) (l2 : Int32) (M : I_M) : Option (Int32 × I_M) :=
  Option.bind (r_isCell l1 M) (fun q8 => (if q8.1 = (0 : Int32) then
      some ((-1 : Int32), q8.2)
    else
      Option.bind (r_within (Int32.toInt64 l2) (0 : Int64) (9 : Int64) q8.2) (fun q10 => (if q10.1 = (0 : Int32) then
        some ((-1 : Int32), q10.2)
      else
        i_g ((25 : Int32) + l1) 60 (r_dug_L42 l1 l2 (fun l3_13 M13 =>
            some (l3_13, (i_wI M13 50 12 ((M13.1 50 12) ||| ((1 : Int32) <<< (l3_13 &&& 31)))))) i_F (0 : Int32) (i_wI q10.2 50 13 ((q10.2.1 50 13) + (q10.2.1 51 (Int32.toNatClampNeg ((25 : Int32) + l1))))))))))
theorem ok_r_dug {X : Nat × (Nat → Int32)} {d : Nat} {l1 : Int32} {l2 : Int32} {M : I_M} {r : (Int32 × I_M)} (hd : 3 ≤ d) (h : r_dug l1 l2 M = some r) : I_Ex d 242 [.ref 50, .int l1, .int l2] (i_S X M) (some (.int r.1)) (i_S X r.2) := by
  obtain ⟨d, rfl⟩ : ∃ d1, d = d1 + 1 := ⟨d - 1, by omega⟩
  unfold r_dug at h
  refine i_ex (e := i_r242) (lv := [some (.ref 50), some (.int l1), some (.int l2), none]) rfl (Nat.le_of_ble_eq_true rfl) rfl ?_
  show I_RnE (I_Ex d) i_c242 (0, [some (.ref 50), some (.int l1), some (.int l2), none], [], i_S X M) _ _
  refine i_rs 2 (cf' := (2, [some (.ref 50), some (.int l1), some (.int l2), none], [.int l1, .ref 50], i_S X M)) rfl ?_
  obtain ⟨q8, hq8, h⟩ := i_bdE h
  refine i_rcall (k := 183) (as := [.ref 50, .int l1]) (cf1 := (5, [some (.ref 50), some (.int l1), some (.int l2), none], [], i_S X M)) (cf' := (5, [some (.ref 50), some (.int l1), some (.int l2), none], [.int q8.1], i_S X q8.2)) rfl (ok_r_isCell (by omega) hq8) rfl ?_
  by_cases c9 : q8.1 = (0 : Int32)
  · replace h := (if_pos c9).symm.trans h
    refine i_rbT (c := q8.1 = (0 : Int32)) (t := 20) (n := 8) rfl c9 ?_
    refine i_rs 1 (cf' := (21, [some (.ref 50), some (.int l1), some (.int l2), none], [.int (-1 : Int32)], i_S X q8.2)) rfl ?_
    obtain rfl := Option.some.inj h
    exact i_rret rfl rfl
  · replace h := (if_neg c9).symm.trans h
    refine i_rbF (c := q8.1 = (0 : Int32)) (t := 20) (n := 8) rfl c9 ?_
    refine i_rs 4 (cf' := (14, [some (.ref 50), some (.int l1), some (.int l2), none], [.long (9 : Int64), .long (0 : Int64), .long (Int32.toInt64 l2)], i_S X q8.2)) rfl ?_
    obtain ⟨q10, hq10, h⟩ := i_bdE h
    refine i_rcall (k := 175) (as := [.long (Int32.toInt64 l2), .long (0 : Int64), .long (9 : Int64)]) (cf1 := (17, [some (.ref 50), some (.int l1), some (.int l2), none], [], i_S X q8.2)) (cf' := (17, [some (.ref 50), some (.int l1), some (.int l2), none], [.int q10.1], i_S X q10.2)) rfl (ok_r_within (by omega) hq10) rfl ?_
    by_cases c11 : q10.1 = (0 : Int32)
    · replace h := (if_pos c11).symm.trans h
      refine i_rbT (c := q10.1 = (0 : Int32)) (t := 20) (n := 22) rfl c11 ?_
      refine i_rs 1 (cf' := (21, [some (.ref 50), some (.int l1), some (.int l2), none], [.int (-1 : Int32)], i_S X q10.2)) rfl ?_
      obtain rfl := Option.some.inj h
      exact i_rret rfl rfl
    · replace h := (if_neg c11).symm.trans h
      refine i_rbF (c := q10.1 = (0 : Int32)) (t := 20) (n := 22) rfl c11 ?_
      refine i_rs 8 (cf' := (35, [some (.ref 50), some (.int l1), some (.int l2), none], [.int ((25 : Int32) + l1), .ref 51, .int (q10.2.1 50 13), .ref 50], i_S X q10.2)) rfl ?_
      obtain ⟨g12, h⟩ := i_gE h
      refine i_riald (n := 60) (cf' := (36, [some (.ref 50), some (.int l1), some (.int l2), none], [.int (q10.2.1 51 (Int32.toNatClampNeg ((25 : Int32) + l1))), .int (q10.2.1 50 13), .ref 50], i_S X q10.2)) rfl rfl (by decide) g12 rfl ?_
      refine i_rs 4 (cf' := (42, [some (.ref 50), some (.int l1), some (.int l2), some (.int (0 : Int32))], [], i_S X (i_wI q10.2 50 13 ((q10.2.1 50 13) + (q10.2.1 51 (Int32.toNatClampNeg ((25 : Int32) + l1))))))) rfl ?_
      refine i_fg (lv' := [some (.ref 50), some (.int l1), some (.int l2), some (.int (0 : Int32))]) (And.intro rfl (And.intro rfl (And.intro rfl (And.intro rfl True.intro)))) ?_
      refine ok_r_dug_L42 (by omega) (fun l3_13 M13 r h => ?_) i_F (0 : Int32) (i_wI q10.2 50 13 ((q10.2.1 50 13) + (q10.2.1 51 (Int32.toNatClampNeg ((25 : Int32) + l1))))) _ h
      refine i_rs 9 (cf' := (97, [some (.ref 50), none, none, some (.int l3_13)], [.int l3_13], i_S X (i_wI M13 50 12 ((M13.1 50 12) ||| ((1 : Int32) <<< (l3_13 &&& 31)))))) rfl ?_
      obtain rfl := Option.some.inj h
      exact i_rret rfl rfl
def b_judge_L27 (l1 : Int32) (k91 : Int32 → Int32 → I_M → Option (Int32 × I_M)) : Nat → Int32 → Int32 → Int32 → I_M → Option (Int32 × I_M)
  | 0, _, _, _, _ => none
  | n + 1, l2, l3, l4, M =>
    (if l4 < (0 : Int32) then
        k91 l2 l3 M
      else
        i_g l4 10 (Option.bind (b_Buried_heardOfAll (M.1 19 (Int32.toNatClampNeg l4)) (M.1 20 (Int32.toNatClampNeg l4)) M) (fun q3 => (if q3.1 = (q3.2.1 21 (Int32.toNatClampNeg l4)) then
          (b_judge_L27 l1 k91 n) (l2 ||| ((1 : Int32) <<< (l4 &&& 31))) l3 (l4 + (-1 : Int32)) q3.2
        else
          (b_judge_L27 l1 k91 n) l2 l4 (l4 + (-1 : Int32)) q3.2))))
theorem ok_b_judge_L27 {X : Nat × (Nat → Int32)} {d : Nat} {l1 : Int32} {k91 : Int32 → Int32 → I_M → Option (Int32 × I_M)} (hd : 7 ≤ d + 1) (hk91 : ∀ (l2 : Int32) (l3 : Int32) (M : I_M) (r : (Int32 × I_M)), k91 l2 l3 M = some r → I_RnE (I_Ex d) i_c132 (91, [none, some (.int l1), some (.int l2), some (.int l3), none], [], i_S X M) (some (.int r.1)) (i_S X r.2)) : ∀ (n : Nat) (l2 : Int32) (l3 : Int32) (l4 : Int32) (M : I_M) (r : (Int32 × I_M)), b_judge_L27 l1 k91 n l2 l3 l4 M = some r → I_RnE (I_Ex d) i_c132 (27, [some (.ref 0), some (.int l1), some (.int l2), some (.int l3), some (.int l4)], [], i_S X M) (some (.int r.1)) (i_S X r.2) := by
  intro n
  induction n with
  | zero => intro _ _ _ M r h; cases h
  | succ n hself =>
    intro l2 l3 l4 M r h
    rw [b_judge_L27] at h
    refine i_rs 1 (cf' := (29, [some (.ref 0), some (.int l1), some (.int l2), some (.int l3), some (.int l4)], [.int l4], i_S X M)) rfl ?_
    by_cases c1 : l4 < (0 : Int32)
    · replace h := (if_pos c1).symm.trans h
      refine i_rbT (c := l4 < (0 : Int32)) (t := 91) (n := 32) rfl c1 ?_
      refine i_fg (lv' := [none, some (.int l1), some (.int l2), some (.int l3), none]) (And.intro rfl (And.intro rfl (And.intro rfl True.intro))) ?_
      exact hk91 l2 l3 M _ h
    · replace h := (if_neg c1).symm.trans h
      refine i_rbF (c := l4 < (0 : Int32)) (t := 91) (n := 32) rfl c1 ?_
      refine i_rs 6 (cf' := (45, [some (.ref 0), some (.int l1), some (.int l2), some (.int l3), some (.int l4)], [.int l4, .ref 19, .ref 13], i_S X M)) rfl ?_
      obtain ⟨g2, h⟩ := i_gE h
      refine i_riald (n := 10) (cf' := (46, [some (.ref 0), some (.int l1), some (.int l2), some (.int l3), some (.int l4)], [.int (M.1 19 (Int32.toNatClampNeg l4)), .ref 13], i_S X M)) rfl rfl (by decide) g2 rfl ?_
      refine i_rs 4 (cf' := (55, [some (.ref 0), some (.int l1), some (.int l2), some (.int l3), some (.int l4)], [.int l4, .ref 20, .int (M.1 19 (Int32.toNatClampNeg l4)), .ref 13], i_S X M)) rfl ?_
      refine i_riald (n := 10) (cf' := (56, [some (.ref 0), some (.int l1), some (.int l2), some (.int l3), some (.int l4)], [.int (M.1 20 (Int32.toNatClampNeg l4)), .int (M.1 19 (Int32.toNatClampNeg l4)), .ref 13], i_S X M)) rfl rfl (by decide) g2 rfl ?_
      obtain ⟨q3, hq3, h⟩ := i_bdE h
      refine i_rcall (k := 75) (as := [.ref 13, .int (M.1 19 (Int32.toNatClampNeg l4)), .int (M.1 20 (Int32.toNatClampNeg l4))]) (cf1 := (59, [some (.ref 0), some (.int l1), some (.int l2), some (.int l3), some (.int l4)], [], i_S X M)) (cf' := (59, [some (.ref 0), some (.int l1), some (.int l2), some (.int l3), some (.int l4)], [.int q3.1], i_S X q3.2)) rfl (ok_b_Buried_heardOfAll (by omega) hq3) rfl ?_
      refine i_rs 4 (cf' := (68, [some (.ref 0), some (.int l1), some (.int l2), some (.int l3), some (.int l4)], [.int l4, .ref 21, .int q3.1], i_S X q3.2)) rfl ?_
      refine i_riald (n := 10) (cf' := (69, [some (.ref 0), some (.int l1), some (.int l2), some (.int l3), some (.int l4)], [.int (q3.2.1 21 (Int32.toNatClampNeg l4)), .int q3.1], i_S X q3.2)) rfl rfl (by decide) g2 rfl ?_
      by_cases c4 : q3.1 = (q3.2.1 21 (Int32.toNatClampNeg l4))
      · replace h := (if_pos c4).symm.trans h
        refine i_rbT (c := q3.1 = (q3.2.1 21 (Int32.toNatClampNeg l4))) (t := 72) (n := 82) rfl c4 ?_
        refine i_rs 9 (cf' := (27, [some (.ref 0), some (.int l1), some (.int (l2 ||| ((1 : Int32) <<< (l4 &&& 31)))), some (.int l3), some (.int (l4 + (-1 : Int32)))], [], i_S X q3.2)) rfl ?_
        refine i_fg (lv' := [some (.ref 0), some (.int l1), some (.int (l2 ||| ((1 : Int32) <<< (l4 &&& 31)))), some (.int l3), some (.int (l4 + (-1 : Int32)))]) (And.intro rfl (And.intro rfl (And.intro rfl (And.intro rfl (And.intro rfl True.intro))))) ?_
        exact hself (l2 ||| ((1 : Int32) <<< (l4 &&& 31))) l3 (l4 + (-1 : Int32)) q3.2 _ h
      · replace h := (if_neg c4).symm.trans h
        refine i_rbF (c := q3.1 = (q3.2.1 21 (Int32.toNatClampNeg l4))) (t := 72) (n := 82) rfl c4 ?_
        refine i_rs 4 (cf' := (27, [some (.ref 0), some (.int l1), some (.int l2), some (.int l4), some (.int (l4 + (-1 : Int32)))], [], i_S X q3.2)) rfl ?_
        refine i_fg (lv' := [some (.ref 0), some (.int l1), some (.int l2), some (.int l4), some (.int (l4 + (-1 : Int32)))]) (And.intro rfl (And.intro rfl (And.intro rfl (And.intro rfl (And.intro rfl True.intro))))) ?_
        exact hself l2 l4 (l4 + (-1 : Int32)) q3.2 _ h
def b_judge (l1 : Int32) (M : I_M) : Option (Int32 × I_M) :=
  (if l1 < (0 : Int32) then
      some ((-1 : Int32), M)
    else
      (if (1 : Int32) < l1 then
        some ((-1 : Int32), M)
      else
        b_judge_L27 l1 (fun l2_7 l3_7 M7 =>
            (if l1 = (0 : Int32) then
              some (l3_7, M7)
            else
              some (l2_7, M7))) i_F (0 : Int32) (-2 : Int32) ((M.1 18 3) - (1 : Int32)) M))
theorem ok_b_judge {X : Nat × (Nat → Int32)} {d : Nat} {l1 : Int32} {M : I_M} {r : (Int32 × I_M)} (hd : 7 ≤ d) (h : b_judge l1 M = some r) : I_Ex d 132 [.ref 0, .int l1] (i_S X M) (some (.int r.1)) (i_S X r.2) := by
  obtain ⟨d, rfl⟩ : ∃ d1, d = d1 + 1 := ⟨d - 1, by omega⟩
  unfold b_judge at h
  refine i_ex (e := i_r132) (lv := [some (.ref 0), some (.int l1), none, none, none]) rfl (Nat.le_of_ble_eq_true rfl) rfl ?_
  show I_RnE (I_Ex d) i_c132 (0, [some (.ref 0), some (.int l1), none, none, none], [], i_S X M) _ _
  refine i_rs 1 (cf' := (1, [some (.ref 0), some (.int l1), none, none, none], [.int l1], i_S X M)) rfl ?_
  by_cases c5 : l1 < (0 : Int32)
  · replace h := (if_pos c5).symm.trans h
    refine i_rbT (c := l1 < (0 : Int32)) (t := 9) (n := 4) rfl c5 ?_
    refine i_rs 1 (cf' := (10, [some (.ref 0), some (.int l1), none, none, none], [.int (-1 : Int32)], i_S X M)) rfl ?_
    obtain rfl := Option.some.inj h
    exact i_rret rfl rfl
  · replace h := (if_neg c5).symm.trans h
    refine i_rbF (c := l1 < (0 : Int32)) (t := 9) (n := 4) rfl c5 ?_
    refine i_rs 2 (cf' := (6, [some (.ref 0), some (.int l1), none, none, none], [.int (1 : Int32), .int l1], i_S X M)) rfl ?_
    by_cases c6 : (1 : Int32) < l1
    · replace h := (if_pos c6).symm.trans h
      refine i_rbT (c := (1 : Int32) < l1) (t := 9) (n := 11) rfl c6 ?_
      refine i_rs 1 (cf' := (10, [some (.ref 0), some (.int l1), none, none, none], [.int (-1 : Int32)], i_S X M)) rfl ?_
      obtain rfl := Option.some.inj h
      exact i_rret rfl rfl
    · replace h := (if_neg c6).symm.trans h
      refine i_rbF (c := (1 : Int32) < l1) (t := 9) (n := 11) rfl c6 ?_
      refine i_rs 10 (cf' := (27, [some (.ref 0), some (.int l1), some (.int (0 : Int32)), some (.int (-2 : Int32)), some (.int ((M.1 18 3) - (1 : Int32)))], [], i_S X M)) rfl ?_
      refine i_fg (lv' := [some (.ref 0), some (.int l1), some (.int (0 : Int32)), some (.int (-2 : Int32)), some (.int ((M.1 18 3) - (1 : Int32)))]) (And.intro rfl (And.intro rfl (And.intro rfl (And.intro rfl (And.intro rfl True.intro))))) ?_
      refine ok_b_judge_L27 (by omega) (fun l2_7 l3_7 M7 r h => ?_) i_F (0 : Int32) (-2 : Int32) ((M.1 18 3) - (1 : Int32)) M _ h
      refine i_rs 1 (cf' := (92, [none, some (.int l1), some (.int l2_7), some (.int l3_7), none], [.int l1], i_S X M7)) rfl ?_
      by_cases c8 : l1 = (0 : Int32)
      · replace h := (if_pos c8).symm.trans h
        refine i_rbT (c := l1 = (0 : Int32)) (t := 95) (n := 99) rfl c8 ?_
        refine i_rs 2 (cf' := (100, [none, some (.int l1), some (.int l2_7), some (.int l3_7), none], [.int l3_7], i_S X M7)) rfl ?_
        obtain rfl := Option.some.inj h
        exact i_rret rfl rfl
      · replace h := (if_neg c8).symm.trans h
        refine i_rbF (c := l1 = (0 : Int32)) (t := 95) (n := 99) rfl c8 ?_
        refine i_rs 1 (cf' := (100, [none, some (.int l1), some (.int l2_7), some (.int l3_7), none], [.int l2_7], i_S X M7)) rfl ?_
        obtain rfl := Option.some.inj h
        exact i_rret rfl rfl
def r_judge_B89 (self : Int32 → Int32 → Int32 → I_M → Option (Int32 × I_M)) (k112 : Int32 → Int32 → I_M → Option (Int32 × I_M)) (l1 : Int32) (l3 : Int32) (l4 : Int32) (l5 : Int32) (s0 : Int32) (M : I_M) : Option (Int32 × I_M) :=
  (if l5 = (0 : Int32) then
      self s0 (l3 ||| (0 : Int32)) (l4 + (1 : Int32)) M
    else
      self s0 (l3 ||| ((1 : Int32) <<< (l4 &&& 31))) (l4 + (1 : Int32)) M)
theorem ok_r_judge_B89 {X : Nat × (Nat → Int32)} {d : Nat} {self : Int32 → Int32 → Int32 → I_M → Option (Int32 × I_M)} {k112 : Int32 → Int32 → I_M → Option (Int32 × I_M)} {l1 : Int32} {l3 : Int32} {l4 : Int32} {l5 : Int32} {s0 : Int32} {M : I_M} {r : (Int32 × I_M)} (hself : ∀ (m2 : Int32) (m3 : Int32) (m4 : Int32) (M : I_M) (r : (Int32 × I_M)), self m2 m3 m4 M = some r → I_RnE (I_Ex d) i_c243 (20, [some (.ref 50), some (.int l1), some (.int m2), some (.int m3), some (.int m4), none], [], i_S X M) (some (.int r.1)) (i_S X r.2)) (hk112 : ∀ (m2 : Int32) (m3 : Int32) (M : I_M) (r : (Int32 × I_M)), k112 m2 m3 M = some r → I_RnE (I_Ex d) i_c243 (112, [none, some (.int l1), some (.int m2), some (.int m3), none, none], [], i_S X M) (some (.int r.1)) (i_S X r.2)) (hd : 70 ≤ d + 1) (h : r_judge_B89 self k112 l1 l3 l4 l5 s0 M = some r) : I_RnE (I_Ex d) i_c243 (89, [some (.ref 50), some (.int l1), none, some (.int l3), some (.int l4), some (.int l5)], [.int s0], i_S X M) (some (.int r.1)) (i_S X r.2) := by
  unfold r_judge_B89 at h
  refine i_rs 3 (cf' := (93, [some (.ref 50), some (.int l1), some (.int s0), some (.int l3), some (.int l4), some (.int l5)], [.int l5, .int l3], i_S X M)) rfl ?_
  by_cases c9 : l5 = (0 : Int32)
  · replace h := (if_pos c9).symm.trans h
    refine i_rbT (c := l5 = (0 : Int32)) (t := 103) (n := 96) rfl c9 ?_
    refine i_rs 5 (cf' := (20, [some (.ref 50), some (.int l1), some (.int s0), some (.int (l3 ||| (0 : Int32))), some (.int (l4 + (1 : Int32))), some (.int l5)], [], i_S X M)) rfl ?_
    refine i_fg (lv' := [some (.ref 50), some (.int l1), some (.int s0), some (.int (l3 ||| (0 : Int32))), some (.int (l4 + (1 : Int32))), none]) (And.intro rfl (And.intro rfl (And.intro rfl (And.intro rfl (And.intro rfl True.intro))))) ?_
    exact hself s0 (l3 ||| (0 : Int32)) (l4 + (1 : Int32)) M _ h
  · replace h := (if_neg c9).symm.trans h
    refine i_rbF (c := l5 = (0 : Int32)) (t := 103) (n := 96) rfl c9 ?_
    refine i_rs 8 (cf' := (20, [some (.ref 50), some (.int l1), some (.int s0), some (.int (l3 ||| ((1 : Int32) <<< (l4 &&& 31)))), some (.int (l4 + (1 : Int32))), some (.int l5)], [], i_S X M)) rfl ?_
    refine i_fg (lv' := [some (.ref 50), some (.int l1), some (.int s0), some (.int (l3 ||| ((1 : Int32) <<< (l4 &&& 31)))), some (.int (l4 + (1 : Int32))), none]) (And.intro rfl (And.intro rfl (And.intro rfl (And.intro rfl (And.intro rfl True.intro))))) ?_
    exact hself s0 (l3 ||| ((1 : Int32) <<< (l4 &&& 31))) (l4 + (1 : Int32)) M _ h
def r_judge_B72 (self : Int32 → Int32 → Int32 → I_M → Option (Int32 × I_M)) (k112 : Int32 → Int32 → I_M → Option (Int32 × I_M)) (l1 : Int32) (l2 : Int32) (l3 : Int32) (l4 : Int32) (s0 : Int32) (M : I_M) : Option (Int32 × I_M) :=
  (if l2 < (0 : Int32) then
      (if s0 = (0 : Int32) then
        r_judge_B89 self k112 l1 l3 l4 s0 l4 M
      else
        r_judge_B89 self k112 l1 l3 l4 s0 l2 M)
    else
      r_judge_B89 self k112 l1 l3 l4 s0 l2 M)
theorem ok_r_judge_B72 {X : Nat × (Nat → Int32)} {d : Nat} {self : Int32 → Int32 → Int32 → I_M → Option (Int32 × I_M)} {k112 : Int32 → Int32 → I_M → Option (Int32 × I_M)} {l1 : Int32} {l2 : Int32} {l3 : Int32} {l4 : Int32} {s0 : Int32} {M : I_M} {r : (Int32 × I_M)} (hself : ∀ (m2 : Int32) (m3 : Int32) (m4 : Int32) (M : I_M) (r : (Int32 × I_M)), self m2 m3 m4 M = some r → I_RnE (I_Ex d) i_c243 (20, [some (.ref 50), some (.int l1), some (.int m2), some (.int m3), some (.int m4), none], [], i_S X M) (some (.int r.1)) (i_S X r.2)) (hk112 : ∀ (m2 : Int32) (m3 : Int32) (M : I_M) (r : (Int32 × I_M)), k112 m2 m3 M = some r → I_RnE (I_Ex d) i_c243 (112, [none, some (.int l1), some (.int m2), some (.int m3), none, none], [], i_S X M) (some (.int r.1)) (i_S X r.2)) (hd : 70 ≤ d + 1) (h : r_judge_B72 self k112 l1 l2 l3 l4 s0 M = some r) : I_RnE (I_Ex d) i_c243 (72, [some (.ref 50), some (.int l1), some (.int l2), some (.int l3), some (.int l4), none], [.int s0], i_S X M) (some (.int r.1)) (i_S X r.2) := by
  unfold r_judge_B72 at h
  refine i_rs 2 (cf' := (75, [some (.ref 50), some (.int l1), some (.int l2), some (.int l3), some (.int l4), some (.int s0)], [.int l2], i_S X M)) rfl ?_
  by_cases c7 : l2 < (0 : Int32)
  · replace h := (if_pos c7).symm.trans h
    refine i_rbT (c := l2 < (0 : Int32)) (t := 78) (n := 88) rfl c7 ?_
    refine i_rs 1 (cf' := (80, [some (.ref 50), some (.int l1), some (.int l2), some (.int l3), some (.int l4), some (.int s0)], [.int s0], i_S X M)) rfl ?_
    by_cases c8 : s0 = (0 : Int32)
    · replace h := (if_pos c8).symm.trans h
      refine i_rbT (c := s0 = (0 : Int32)) (t := 83) (n := 88) rfl c8 ?_
      refine i_rs 2 (cf' := (89, [some (.ref 50), some (.int l1), some (.int l2), some (.int l3), some (.int l4), some (.int s0)], [.int l4], i_S X M)) rfl ?_
      refine i_fg (lv' := [some (.ref 50), some (.int l1), none, some (.int l3), some (.int l4), some (.int s0)]) (And.intro rfl (And.intro rfl (And.intro rfl (And.intro rfl (And.intro rfl True.intro))))) ?_
      exact ok_r_judge_B89 hself hk112 (by omega) h
    · replace h := (if_neg c8).symm.trans h
      refine i_rbF (c := s0 = (0 : Int32)) (t := 83) (n := 88) rfl c8 ?_
      refine i_rs 1 (cf' := (89, [some (.ref 50), some (.int l1), some (.int l2), some (.int l3), some (.int l4), some (.int s0)], [.int l2], i_S X M)) rfl ?_
      refine i_fg (lv' := [some (.ref 50), some (.int l1), none, some (.int l3), some (.int l4), some (.int s0)]) (And.intro rfl (And.intro rfl (And.intro rfl (And.intro rfl (And.intro rfl True.intro))))) ?_
      exact ok_r_judge_B89 hself hk112 (by omega) h
  · replace h := (if_neg c7).symm.trans h
    refine i_rbF (c := l2 < (0 : Int32)) (t := 78) (n := 88) rfl c7 ?_
    refine i_rs 1 (cf' := (89, [some (.ref 50), some (.int l1), some (.int l2), some (.int l3), some (.int l4), some (.int s0)], [.int l2], i_S X M)) rfl ?_
    refine i_fg (lv' := [some (.ref 50), some (.int l1), none, some (.int l3), some (.int l4), some (.int s0)]) (And.intro rfl (And.intro rfl (And.intro rfl (And.intro rfl (And.intro rfl True.intro))))) ?_
    exact ok_r_judge_B89 hself hk112 (by omega) h
def r_judge_L20 (l1 : Int32) (k112 : Int32 → Int32 → I_M → Option (Int32 × I_M)) : Nat → Int32 → Int32 → Int32 → I_M → Option (Int32 × I_M)
  | 0, _, _, _, _ => none
  | n + 1, l2, l3, l4, M =>
    (if l4 < (M.1 50 24) then
        i_g ((3 : Int32) * l4) 30 (i_g (((3 : Int32) * l4) + (1 : Int32)) 30 (Option.bind (r_heardNow (M.1 61 (Int32.toNatClampNeg ((3 : Int32) * l4))) (M.1 61 (Int32.toNatClampNeg (((3 : Int32) * l4) + (1 : Int32)))) M) (fun q4 => i_g (((3 : Int32) * l4) + (2 : Int32)) 30 ((if q4.1 = (q4.2.1 61 (Int32.toNatClampNeg (((3 : Int32) * l4) + (2 : Int32)))) then
          r_judge_B72 ((r_judge_L20 l1 k112 n)) k112 l1 l2 l3 l4 (1 : Int32) q4.2
        else
          r_judge_B72 ((r_judge_L20 l1 k112 n)) k112 l1 l2 l3 l4 (0 : Int32) q4.2)))))
      else
        k112 l2 l3 M)
theorem ok_r_judge_L20 {X : Nat × (Nat → Int32)} {d : Nat} {l1 : Int32} {k112 : Int32 → Int32 → I_M → Option (Int32 × I_M)} (hd : 70 ≤ d + 1) (hk112 : ∀ (l2 : Int32) (l3 : Int32) (M : I_M) (r : (Int32 × I_M)), k112 l2 l3 M = some r → I_RnE (I_Ex d) i_c243 (112, [none, some (.int l1), some (.int l2), some (.int l3), none, none], [], i_S X M) (some (.int r.1)) (i_S X r.2)) : ∀ (n : Nat) (l2 : Int32) (l3 : Int32) (l4 : Int32) (M : I_M) (r : (Int32 × I_M)), r_judge_L20 l1 k112 n l2 l3 l4 M = some r → I_RnE (I_Ex d) i_c243 (20, [some (.ref 50), some (.int l1), some (.int l2), some (.int l3), some (.int l4), none], [], i_S X M) (some (.int r.1)) (i_S X r.2) := by
  intro n
  induction n with
  | zero => intro _ _ _ M r h; cases h
  | succ n hself =>
    intro l2 l3 l4 M r h
    rw [r_judge_L20] at h
    refine i_rs 3 (cf' := (26, [some (.ref 50), some (.int l1), some (.int l2), some (.int l3), some (.int l4), none], [.int (M.1 50 24), .int l4], i_S X M)) rfl ?_
    by_cases c1 : l4 < (M.1 50 24)
    · replace h := (if_pos c1).symm.trans h
      refine i_rbT (c := l4 < (M.1 50 24)) (t := 29) (n := 112) rfl c1 ?_
      refine i_rs 6 (cf' := (38, [some (.ref 50), some (.int l1), some (.int l2), some (.int l3), some (.int l4), none], [.int ((3 : Int32) * l4), .ref 61, .ref 50], i_S X M)) rfl ?_
      obtain ⟨g2, h⟩ := i_gE h
      refine i_riald (n := 30) (cf' := (39, [some (.ref 50), some (.int l1), some (.int l2), some (.int l3), some (.int l4), none], [.int (M.1 61 (Int32.toNatClampNeg ((3 : Int32) * l4))), .ref 50], i_S X M)) rfl rfl (by decide) g2 rfl ?_
      refine i_rs 7 (cf' := (49, [some (.ref 50), some (.int l1), some (.int l2), some (.int l3), some (.int l4), none], [.int (((3 : Int32) * l4) + (1 : Int32)), .ref 61, .int (M.1 61 (Int32.toNatClampNeg ((3 : Int32) * l4))), .ref 50], i_S X M)) rfl ?_
      obtain ⟨g3, h⟩ := i_gE h
      refine i_riald (n := 30) (cf' := (50, [some (.ref 50), some (.int l1), some (.int l2), some (.int l3), some (.int l4), none], [.int (M.1 61 (Int32.toNatClampNeg (((3 : Int32) * l4) + (1 : Int32)))), .int (M.1 61 (Int32.toNatClampNeg ((3 : Int32) * l4))), .ref 50], i_S X M)) rfl rfl (by decide) g3 rfl ?_
      obtain ⟨q4, hq4, h⟩ := i_bdE h
      refine i_rcall (k := 208) (as := [.ref 50, .int (M.1 61 (Int32.toNatClampNeg ((3 : Int32) * l4))), .int (M.1 61 (Int32.toNatClampNeg (((3 : Int32) * l4) + (1 : Int32))))]) (cf1 := (53, [some (.ref 50), some (.int l1), some (.int l2), some (.int l3), some (.int l4), none], [], i_S X M)) (cf' := (53, [some (.ref 50), some (.int l1), some (.int l2), some (.int l3), some (.int l4), none], [.int q4.1], i_S X q4.2)) rfl (ok_r_heardNow (by omega) hq4) rfl ?_
      refine i_rs 7 (cf' := (63, [some (.ref 50), some (.int l1), some (.int l2), some (.int l3), some (.int l4), none], [.int (((3 : Int32) * l4) + (2 : Int32)), .ref 61, .int q4.1], i_S X q4.2)) rfl ?_
      obtain ⟨g5, h⟩ := i_gE h
      refine i_riald (n := 30) (cf' := (64, [some (.ref 50), some (.int l1), some (.int l2), some (.int l3), some (.int l4), none], [.int (q4.2.1 61 (Int32.toNatClampNeg (((3 : Int32) * l4) + (2 : Int32)))), .int q4.1], i_S X q4.2)) rfl rfl (by decide) g5 rfl ?_
      by_cases c6 : q4.1 = (q4.2.1 61 (Int32.toNatClampNeg (((3 : Int32) * l4) + (2 : Int32))))
      · replace h := (if_pos c6).symm.trans h
        refine i_rbT (c := q4.1 = (q4.2.1 61 (Int32.toNatClampNeg (((3 : Int32) * l4) + (2 : Int32))))) (t := 67) (n := 71) rfl c6 ?_
        refine i_rs 2 (cf' := (72, [some (.ref 50), some (.int l1), some (.int l2), some (.int l3), some (.int l4), none], [.int (1 : Int32)], i_S X q4.2)) rfl ?_
        refine i_fg (lv' := [some (.ref 50), some (.int l1), some (.int l2), some (.int l3), some (.int l4), none]) (And.intro rfl (And.intro rfl (And.intro rfl (And.intro rfl (And.intro rfl True.intro))))) ?_
        exact ok_r_judge_B72 hself hk112 (by omega) h
      · replace h := (if_neg c6).symm.trans h
        refine i_rbF (c := q4.1 = (q4.2.1 61 (Int32.toNatClampNeg (((3 : Int32) * l4) + (2 : Int32))))) (t := 67) (n := 71) rfl c6 ?_
        refine i_rs 1 (cf' := (72, [some (.ref 50), some (.int l1), some (.int l2), some (.int l3), some (.int l4), none], [.int (0 : Int32)], i_S X q4.2)) rfl ?_
        refine i_fg (lv' := [some (.ref 50), some (.int l1), some (.int l2), some (.int l3), some (.int l4), none]) (And.intro rfl (And.intro rfl (And.intro rfl (And.intro rfl (And.intro rfl True.intro))))) ?_
        exact ok_r_judge_B72 hself hk112 (by omega) h
    · replace h := (if_neg c1).symm.trans h
      refine i_rbF (c := l4 < (M.1 50 24)) (t := 29) (n := 112) rfl c1 ?_
      refine i_fg (lv' := [none, some (.int l1), some (.int l2), some (.int l3), none, none]) (And.intro rfl (And.intro rfl (And.intro rfl True.intro))) ?_
      exact hk112 l2 l3 M _ h
def r_judge (l1 : Int32) (M : I_M) : Option (Int32 × I_M) :=
  Option.bind (r_within (Int32.toInt64 l1) (0 : Int64) (1 : Int64) M) (fun q10 => (if q10.1 = (0 : Int32) then
      some ((-1 : Int32), q10.2)
    else
      r_judge_L20 l1 (fun l2_12 l3_12 M12 =>
          (if l1 = (0 : Int32) then
            some (l2_12, M12)
          else
            some (l3_12, M12))) i_F (-2 : Int32) (0 : Int32) (0 : Int32) q10.2))
theorem ok_r_judge {X : Nat × (Nat → Int32)} {d : Nat} {l1 : Int32} {M : I_M} {r : (Int32 × I_M)} (hd : 70 ≤ d) (h : r_judge l1 M = some r) : I_Ex d 243 [.ref 50, .int l1] (i_S X M) (some (.int r.1)) (i_S X r.2) := by
  obtain ⟨d, rfl⟩ : ∃ d1, d = d1 + 1 := ⟨d - 1, by omega⟩
  unfold r_judge at h
  refine i_ex (e := i_r243) (lv := [some (.ref 50), some (.int l1), none, none, none, none]) rfl (Nat.le_of_ble_eq_true rfl) rfl ?_
  show I_RnE (I_Ex d) i_c243 (0, [some (.ref 50), some (.int l1), none, none, none, none], [], i_S X M) _ _
  refine i_rs 4 (cf' := (4, [some (.ref 50), some (.int l1), none, none, none, none], [.long (1 : Int64), .long (0 : Int64), .long (Int32.toInt64 l1)], i_S X M)) rfl ?_
  obtain ⟨q10, hq10, h⟩ := i_bdE h
  refine i_rcall (k := 175) (as := [.long (Int32.toInt64 l1), .long (0 : Int64), .long (1 : Int64)]) (cf1 := (7, [some (.ref 50), some (.int l1), none, none, none, none], [], i_S X M)) (cf' := (7, [some (.ref 50), some (.int l1), none, none, none, none], [.int q10.1], i_S X q10.2)) rfl (ok_r_within (by omega) hq10) rfl ?_
  by_cases c11 : q10.1 = (0 : Int32)
  · replace h := (if_pos c11).symm.trans h
    refine i_rbT (c := q10.1 = (0 : Int32)) (t := 10) (n := 12) rfl c11 ?_
    refine i_rs 1 (cf' := (11, [some (.ref 50), some (.int l1), none, none, none, none], [.int (-1 : Int32)], i_S X q10.2)) rfl ?_
    obtain rfl := Option.some.inj h
    exact i_rret rfl rfl
  · replace h := (if_neg c11).symm.trans h
    refine i_rbF (c := q10.1 = (0 : Int32)) (t := 10) (n := 12) rfl c11 ?_
    refine i_rs 6 (cf' := (20, [some (.ref 50), some (.int l1), some (.int (-2 : Int32)), some (.int (0 : Int32)), some (.int (0 : Int32)), none], [], i_S X q10.2)) rfl ?_
    refine i_fg (lv' := [some (.ref 50), some (.int l1), some (.int (-2 : Int32)), some (.int (0 : Int32)), some (.int (0 : Int32)), none]) (And.intro rfl (And.intro rfl (And.intro rfl (And.intro rfl (And.intro rfl True.intro))))) ?_
    refine ok_r_judge_L20 (by omega) (fun l2_12 l3_12 M12 r h => ?_) i_F (-2 : Int32) (0 : Int32) (0 : Int32) q10.2 _ h
    refine i_rs 1 (cf' := (113, [none, some (.int l1), some (.int l2_12), some (.int l3_12), none, none], [.int l1], i_S X M12)) rfl ?_
    by_cases c13 : l1 = (0 : Int32)
    · replace h := (if_pos c13).symm.trans h
      refine i_rbT (c := l1 = (0 : Int32)) (t := 116) (n := 120) rfl c13 ?_
      refine i_rs 2 (cf' := (121, [none, some (.int l1), some (.int l2_12), some (.int l3_12), none, none], [.int l2_12], i_S X M12)) rfl ?_
      obtain rfl := Option.some.inj h
      exact i_rret rfl rfl
    · replace h := (if_neg c13).symm.trans h
      refine i_rbF (c := l1 = (0 : Int32)) (t := 116) (n := 120) rfl c13 ?_
      refine i_rs 1 (cf' := (121, [none, some (.int l1), some (.int l2_12), some (.int l3_12), none, none], [.int l3_12], i_S X M12)) rfl ?_
      obtain rfl := Option.some.inj h
      exact i_rret rfl rfl
def b_Hearings_copyFrom_46_18 (M : I_M) : Option I_M :=
  i_cg (0 : Int32) (0 : Int32) (M.1 18 3) 10 10 (i_cg (0 : Int32) (0 : Int32) (M.1 18 3) 10 10 (i_cg (0 : Int32) (0 : Int32) (M.1 18 3) 10 10 (some (i_cI (i_cI (i_cI (i_wI M 46 3 (M.1 18 3)) 19 47 (0 : Int32) (0 : Int32) (M.1 18 3)) 20 48 (0 : Int32) (0 : Int32) (M.1 18 3)) 21 49 (0 : Int32) (0 : Int32) (M.1 18 3)))))
theorem ok_b_Hearings_copyFrom_46_18 {X : Nat × (Nat → Int32)} {d : Nat} {M : I_M} {r : I_M} (hd : 1 ≤ d) (h : b_Hearings_copyFrom_46_18 M = some r) : I_Ex d 134 [.ref 46, .ref 18] (i_S X M) none (i_S X r) := by
  obtain ⟨d, rfl⟩ : ∃ d1, d = d1 + 1 := ⟨d - 1, by omega⟩
  unfold b_Hearings_copyFrom_46_18 at h
  refine i_ex (e := i_r134) (lv := [some (.ref 46), some (.ref 18)]) rfl (Nat.le_of_ble_eq_true rfl) rfl ?_
  show I_RnE (I_Ex d) i_c134 (0, [some (.ref 46), some (.ref 18)], [], i_S X M) _ _
  refine i_rs 12 (cf' := (22, [some (.ref 46), some (.ref 18)], [.int (M.1 18 3), .int (0 : Int32), .ref 47, .int (0 : Int32), .ref 19], i_S X (i_wI M 46 3 (M.1 18 3)))) rfl ?_
  obtain ⟨g1, h⟩ := i_cgE h
  refine i_rcpyI (n0 := 10) (n1 := 10) (cf' := (25, [some (.ref 46), some (.ref 18)], [], i_S X (i_cI (i_wI M 46 3 (M.1 18 3)) 19 47 (0 : Int32) (0 : Int32) (M.1 18 3)))) rfl rfl rfl g1 (by decide) rfl ?_
  refine i_rs 8 (cf' := (39, [some (.ref 46), some (.ref 18)], [.int (M.1 18 3), .int (0 : Int32), .ref 48, .int (0 : Int32), .ref 20], i_S X (i_cI (i_wI M 46 3 (M.1 18 3)) 19 47 (0 : Int32) (0 : Int32) (M.1 18 3)))) rfl ?_
  obtain ⟨g2, h⟩ := i_cgE h
  refine i_rcpyI (n0 := 10) (n1 := 10) (cf' := (42, [some (.ref 46), some (.ref 18)], [], i_S X (i_cI (i_cI (i_wI M 46 3 (M.1 18 3)) 19 47 (0 : Int32) (0 : Int32) (M.1 18 3)) 20 48 (0 : Int32) (0 : Int32) (M.1 18 3)))) rfl rfl rfl g2 (by decide) rfl ?_
  refine i_rs 8 (cf' := (56, [some (.ref 46), some (.ref 18)], [.int (M.1 18 3), .int (0 : Int32), .ref 49, .int (0 : Int32), .ref 21], i_S X (i_cI (i_cI (i_wI M 46 3 (M.1 18 3)) 19 47 (0 : Int32) (0 : Int32) (M.1 18 3)) 20 48 (0 : Int32) (0 : Int32) (M.1 18 3)))) rfl ?_
  obtain ⟨g3, h⟩ := i_cgE h
  refine i_rcpyI (n0 := 10) (n1 := 10) (cf' := (59, [some (.ref 46), some (.ref 18)], [], i_S X (i_cI (i_cI (i_cI (i_wI M 46 3 (M.1 18 3)) 19 47 (0 : Int32) (0 : Int32) (M.1 18 3)) 20 48 (0 : Int32) (0 : Int32) (M.1 18 3)) 21 49 (0 : Int32) (0 : Int32) (M.1 18 3)))) rfl rfl rfl g3 (by decide) rfl ?_
  obtain rfl := Option.some.inj h
  exact i_rret rfl rfl
def b_image (M : I_M) : Option (Int32 × I_M) :=
  Option.bind (b_Hearings_copyFrom_46_18 M) (fun q1 => some ((q1.1 18 3), (i_wI (i_wI (i_wI q1 0 12 (q1.1 13 7)) 0 13 (q1.1 13 8)) 0 14 (1 : Int32))))
theorem ok_b_image {X : Nat × (Nat → Int32)} {d : Nat} {M : I_M} {r : (Int32 × I_M)} (hd : 2 ≤ d) (h : b_image M = some r) : I_Ex d 133 [.ref 0] (i_S X M) (some (.int r.1)) (i_S X r.2) := by
  obtain ⟨d, rfl⟩ : ∃ d1, d = d1 + 1 := ⟨d - 1, by omega⟩
  unfold b_image at h
  refine i_ex (e := i_r133) (lv := [some (.ref 0)]) rfl (Nat.le_of_ble_eq_true rfl) rfl ?_
  show I_RnE (I_Ex d) i_c133 (0, [some (.ref 0)], [], i_S X M) _ _
  refine i_rs 4 (cf' := (8, [some (.ref 0)], [.ref 18, .ref 46], i_S X M)) rfl ?_
  obtain ⟨q1, hq1, h⟩ := i_bdE h
  refine i_rcall (k := 134) (as := [.ref 46, .ref 18]) (cf1 := (11, [some (.ref 0)], [], i_S X M)) (cf' := (11, [some (.ref 0)], [], i_S X q1)) rfl (ok_b_Hearings_copyFrom_46_18 (by omega) hq1) rfl ?_
  refine i_rs 12 (cf' := (35, [some (.ref 0)], [.int (1 : Int32), .ref 0], i_S X (i_wI (i_wI q1 0 12 (q1.1 13 7)) 0 13 (q1.1 13 8)))) rfl ?_
  refine i_rpz (ci := 11) (k := 14) (a := 0) (b := 2168) (cf' := (38, [some (.ref 0)], [], i_S X (i_wI (i_wI (i_wI q1 0 12 (q1.1 13 7)) 0 13 (q1.1 13 8)) 0 14 (1 : Int32)))) rfl rfl rfl (Or.inr rfl) rfl ?_
  refine i_rs 3 (cf' := (45, [some (.ref 0)], [.int (q1.1 18 3)], i_S X (i_wI (i_wI (i_wI q1 0 12 (q1.1 13 7)) 0 13 (q1.1 13 8)) 0 14 (1 : Int32)))) rfl ?_
  obtain rfl := Option.some.inj h
  exact i_rret rfl rfl
def r_image_L31 : Nat → Int32 → I_M → Option (Int32 × I_M)
  | 0, _, _ => none
  | n + 1, l1, M =>
    (if l1 < (30 : Int32) then
        i_g l1 30 ((r_image_L31 n) (l1 + (1 : Int32)) (i_wI M 67 (Int32.toNatClampNeg l1) (M.1 61 (Int32.toNatClampNeg l1))))
      else
        some ((M.1 50 24), M))
theorem ok_r_image_L31 {X : Nat × (Nat → Int32)} {d : Nat} (hd : 1 ≤ d + 1) : ∀ (n : Nat) (l1 : Int32) (M : I_M) (r : (Int32 × I_M)), r_image_L31 n l1 M = some r → I_RnE (I_Ex d) i_c244 (31, [some (.ref 50), some (.int l1)], [], i_S X M) (some (.int r.1)) (i_S X r.2) := by
  intro n
  induction n with
  | zero => intro _ M r h; cases h
  | succ n hself =>
    intro l1 M r h
    rw [r_image_L31] at h
    refine i_rs 2 (cf' := (34, [some (.ref 50), some (.int l1)], [.int (30 : Int32), .int l1], i_S X M)) rfl ?_
    by_cases c1 : l1 < (30 : Int32)
    · replace h := (if_pos c1).symm.trans h
      refine i_rbT (c := l1 < (30 : Int32)) (t := 37) (n := 55) rfl c1 ?_
      refine i_rs 6 (cf' := (47, [some (.ref 50), some (.int l1)], [.int l1, .ref 61, .int l1, .ref 67], i_S X M)) rfl ?_
      obtain ⟨g2, h⟩ := i_gE h
      refine i_riald (n := 30) (cf' := (48, [some (.ref 50), some (.int l1)], [.int (M.1 61 (Int32.toNatClampNeg l1)), .int l1, .ref 67], i_S X M)) rfl rfl (by decide) g2 rfl ?_
      refine i_riast (n := 30) (cf' := (49, [some (.ref 50), some (.int l1)], [], i_S X (i_wI M 67 (Int32.toNatClampNeg l1) (M.1 61 (Int32.toNatClampNeg l1))))) rfl rfl (Or.inl rfl) g2 rfl ?_
      refine i_rs 2 (cf' := (31, [some (.ref 50), some (.int (l1 + (1 : Int32)))], [], i_S X (i_wI M 67 (Int32.toNatClampNeg l1) (M.1 61 (Int32.toNatClampNeg l1))))) rfl ?_
      refine i_fg (lv' := [some (.ref 50), some (.int (l1 + (1 : Int32)))]) (And.intro rfl (And.intro rfl True.intro)) ?_
      exact hself (l1 + (1 : Int32)) (i_wI M 67 (Int32.toNatClampNeg l1) (M.1 61 (Int32.toNatClampNeg l1))) _ h
    · replace h := (if_neg c1).symm.trans h
      refine i_rbF (c := l1 < (30 : Int32)) (t := 37) (n := 55) rfl c1 ?_
      refine i_rs 2 (cf' := (59, [some (.ref 50), some (.int l1)], [.int (M.1 50 24)], i_S X M)) rfl ?_
      obtain rfl := Option.some.inj h
      exact i_rret rfl rfl
def r_image (M : I_M) : Option (Int32 × I_M) :=
  r_image_L31 i_F (0 : Int32) (i_wI (i_wI (i_wI (i_wI M 50 41 (1 : Int32)) 50 42 (M.1 50 24)) 50 43 (M.1 50 12)) 50 44 (M.1 50 13))
theorem ok_r_image {X : Nat × (Nat → Int32)} {d : Nat} {M : I_M} {r : (Int32 × I_M)} (hd : 1 ≤ d) (h : r_image M = some r) : I_Ex d 244 [.ref 50] (i_S X M) (some (.int r.1)) (i_S X r.2) := by
  obtain ⟨d, rfl⟩ : ∃ d1, d = d1 + 1 := ⟨d - 1, by omega⟩
  unfold r_image at h
  refine i_ex (e := i_r244) (lv := [some (.ref 50), none]) rfl (Nat.le_of_ble_eq_true rfl) rfl ?_
  show I_RnE (I_Ex d) i_c244 (0, [some (.ref 50), none], [], i_S X M) _ _
  refine i_rs 2 (cf' := (2, [some (.ref 50), none], [.int (1 : Int32), .ref 50], i_S X M)) rfl ?_
  refine i_rpz (ci := 12) (k := 41) (a := 0) (b := 6010) (cf' := (5, [some (.ref 50), none], [], i_S X (i_wI M 50 41 (1 : Int32)))) rfl rfl rfl (Or.inr rfl) rfl ?_
  refine i_rs 14 (cf' := (31, [some (.ref 50), some (.int (0 : Int32))], [], i_S X (i_wI (i_wI (i_wI (i_wI M 50 41 (1 : Int32)) 50 42 (M.1 50 24)) 50 43 (M.1 50 12)) 50 44 (M.1 50 13)))) rfl ?_
  refine i_fg (lv' := [some (.ref 50), some (.int (0 : Int32))]) (And.intro rfl (And.intro rfl True.intro)) ?_
  refine ok_r_image_L31 (by omega) i_F (0 : Int32) (i_wI (i_wI (i_wI (i_wI M 50 41 (1 : Int32)) 50 42 (M.1 50 24)) 50 43 (M.1 50 12)) 50 44 (M.1 50 13)) _ h
def b_Hearings_copyFrom_18_46 (M : I_M) : Option I_M :=
  i_cg (0 : Int32) (0 : Int32) (M.1 46 3) 10 10 (i_cg (0 : Int32) (0 : Int32) (M.1 46 3) 10 10 (i_cg (0 : Int32) (0 : Int32) (M.1 46 3) 10 10 (some (i_cI (i_cI (i_cI (i_wI M 18 3 (M.1 46 3)) 47 19 (0 : Int32) (0 : Int32) (M.1 46 3)) 48 20 (0 : Int32) (0 : Int32) (M.1 46 3)) 49 21 (0 : Int32) (0 : Int32) (M.1 46 3)))))
theorem ok_b_Hearings_copyFrom_18_46 {X : Nat × (Nat → Int32)} {d : Nat} {M : I_M} {r : I_M} (hd : 1 ≤ d) (h : b_Hearings_copyFrom_18_46 M = some r) : I_Ex d 134 [.ref 18, .ref 46] (i_S X M) none (i_S X r) := by
  obtain ⟨d, rfl⟩ : ∃ d1, d = d1 + 1 := ⟨d - 1, by omega⟩
  unfold b_Hearings_copyFrom_18_46 at h
  refine i_ex (e := i_r134) (lv := [some (.ref 18), some (.ref 46)]) rfl (Nat.le_of_ble_eq_true rfl) rfl ?_
  show I_RnE (I_Ex d) i_c134 (0, [some (.ref 18), some (.ref 46)], [], i_S X M) _ _
  refine i_rs 12 (cf' := (22, [some (.ref 18), some (.ref 46)], [.int (M.1 46 3), .int (0 : Int32), .ref 19, .int (0 : Int32), .ref 47], i_S X (i_wI M 18 3 (M.1 46 3)))) rfl ?_
  obtain ⟨g1, h⟩ := i_cgE h
  refine i_rcpyI (n0 := 10) (n1 := 10) (cf' := (25, [some (.ref 18), some (.ref 46)], [], i_S X (i_cI (i_wI M 18 3 (M.1 46 3)) 47 19 (0 : Int32) (0 : Int32) (M.1 46 3)))) rfl rfl rfl g1 (by decide) rfl ?_
  refine i_rs 8 (cf' := (39, [some (.ref 18), some (.ref 46)], [.int (M.1 46 3), .int (0 : Int32), .ref 20, .int (0 : Int32), .ref 48], i_S X (i_cI (i_wI M 18 3 (M.1 46 3)) 47 19 (0 : Int32) (0 : Int32) (M.1 46 3)))) rfl ?_
  obtain ⟨g2, h⟩ := i_cgE h
  refine i_rcpyI (n0 := 10) (n1 := 10) (cf' := (42, [some (.ref 18), some (.ref 46)], [], i_S X (i_cI (i_cI (i_wI M 18 3 (M.1 46 3)) 47 19 (0 : Int32) (0 : Int32) (M.1 46 3)) 48 20 (0 : Int32) (0 : Int32) (M.1 46 3)))) rfl rfl rfl g2 (by decide) rfl ?_
  refine i_rs 8 (cf' := (56, [some (.ref 18), some (.ref 46)], [.int (M.1 46 3), .int (0 : Int32), .ref 21, .int (0 : Int32), .ref 49], i_S X (i_cI (i_cI (i_wI M 18 3 (M.1 46 3)) 47 19 (0 : Int32) (0 : Int32) (M.1 46 3)) 48 20 (0 : Int32) (0 : Int32) (M.1 46 3)))) rfl ?_
  obtain ⟨g3, h⟩ := i_cgE h
  refine i_rcpyI (n0 := 10) (n1 := 10) (cf' := (59, [some (.ref 18), some (.ref 46)], [], i_S X (i_cI (i_cI (i_cI (i_wI M 18 3 (M.1 46 3)) 47 19 (0 : Int32) (0 : Int32) (M.1 46 3)) 48 20 (0 : Int32) (0 : Int32) (M.1 46 3)) 49 21 (0 : Int32) (0 : Int32) (M.1 46 3)))) rfl rfl rfl g3 (by decide) rfl ?_
  obtain rfl := Option.some.inj h
  exact i_rret rfl rfl
def b_back (M : I_M) : Option (Int32 × I_M) :=
  (if (M.1 0 14) = (0 : Int32) then
      some ((-5 : Int32), M)
    else
      Option.bind (b_Hearings_copyFrom_18_46 M) (fun q2 => some ((q2.1 18 3), (i_wI (i_wI q2 13 7 (q2.1 0 12)) 13 8 (q2.1 0 13)))))
theorem ok_b_back {X : Nat × (Nat → Int32)} {d : Nat} {M : I_M} {r : (Int32 × I_M)} (hd : 2 ≤ d) (h : b_back M = some r) : I_Ex d 135 [.ref 0] (i_S X M) (some (.int r.1)) (i_S X r.2) := by
  obtain ⟨d, rfl⟩ : ∃ d1, d = d1 + 1 := ⟨d - 1, by omega⟩
  unfold b_back at h
  refine i_ex (e := i_r135) (lv := [some (.ref 0)]) rfl (Nat.le_of_ble_eq_true rfl) rfl ?_
  show I_RnE (I_Ex d) i_c135 (0, [some (.ref 0)], [], i_S X M) _ _
  refine i_rs 2 (cf' := (4, [some (.ref 0)], [.int (M.1 0 14)], i_S X M)) rfl ?_
  by_cases c1 : (M.1 0 14) = (0 : Int32)
  · replace h := (if_pos c1).symm.trans h
    refine i_rbT (c := (M.1 0 14) = (0 : Int32)) (t := 7) (n := 10) rfl c1 ?_
    refine i_rs 1 (cf' := (9, [some (.ref 0)], [.int (-5 : Int32)], i_S X M)) rfl ?_
    obtain rfl := Option.some.inj h
    exact i_rret rfl rfl
  · replace h := (if_neg c1).symm.trans h
    refine i_rbF (c := (M.1 0 14) = (0 : Int32)) (t := 7) (n := 10) rfl c1 ?_
    refine i_rs 4 (cf' := (18, [some (.ref 0)], [.ref 46, .ref 18], i_S X M)) rfl ?_
    obtain ⟨q2, hq2, h⟩ := i_bdE h
    refine i_rcall (k := 134) (as := [.ref 18, .ref 46]) (cf1 := (21, [some (.ref 0)], [], i_S X M)) (cf' := (21, [some (.ref 0)], [], i_S X q2)) rfl (ok_b_Hearings_copyFrom_18_46 (by omega) hq2) rfl ?_
    refine i_rs 13 (cf' := (50, [some (.ref 0)], [.int (q2.1 18 3)], i_S X (i_wI (i_wI q2 13 7 (q2.1 0 12)) 13 8 (q2.1 0 13)))) rfl ?_
    obtain rfl := Option.some.inj h
    exact i_rret rfl rfl
def r_back_L36 : Nat → Int32 → I_M → Option (Int32 × I_M)
  | 0, _, _ => none
  | n + 1, l1, M =>
    (if l1 < (30 : Int32) then
        i_g l1 30 ((r_back_L36 n) (l1 + (1 : Int32)) (i_wI M 61 (Int32.toNatClampNeg l1) (M.1 67 (Int32.toNatClampNeg l1))))
      else
        some ((M.1 50 24), M))
theorem ok_r_back_L36 {X : Nat × (Nat → Int32)} {d : Nat} (hd : 1 ≤ d + 1) : ∀ (n : Nat) (l1 : Int32) (M : I_M) (r : (Int32 × I_M)), r_back_L36 n l1 M = some r → I_RnE (I_Ex d) i_c245 (36, [some (.ref 50), some (.int l1)], [], i_S X M) (some (.int r.1)) (i_S X r.2) := by
  intro n
  induction n with
  | zero => intro _ M r h; cases h
  | succ n hself =>
    intro l1 M r h
    rw [r_back_L36] at h
    refine i_rs 2 (cf' := (39, [some (.ref 50), some (.int l1)], [.int (30 : Int32), .int l1], i_S X M)) rfl ?_
    by_cases c1 : l1 < (30 : Int32)
    · replace h := (if_pos c1).symm.trans h
      refine i_rbT (c := l1 < (30 : Int32)) (t := 42) (n := 60) rfl c1 ?_
      refine i_rs 6 (cf' := (52, [some (.ref 50), some (.int l1)], [.int l1, .ref 67, .int l1, .ref 61], i_S X M)) rfl ?_
      obtain ⟨g2, h⟩ := i_gE h
      refine i_riald (n := 30) (cf' := (53, [some (.ref 50), some (.int l1)], [.int (M.1 67 (Int32.toNatClampNeg l1)), .int l1, .ref 61], i_S X M)) rfl rfl (by decide) g2 rfl ?_
      refine i_riast (n := 30) (cf' := (54, [some (.ref 50), some (.int l1)], [], i_S X (i_wI M 61 (Int32.toNatClampNeg l1) (M.1 67 (Int32.toNatClampNeg l1))))) rfl rfl (Or.inl rfl) g2 rfl ?_
      refine i_rs 2 (cf' := (36, [some (.ref 50), some (.int (l1 + (1 : Int32)))], [], i_S X (i_wI M 61 (Int32.toNatClampNeg l1) (M.1 67 (Int32.toNatClampNeg l1))))) rfl ?_
      refine i_fg (lv' := [some (.ref 50), some (.int (l1 + (1 : Int32)))]) (And.intro rfl (And.intro rfl True.intro)) ?_
      exact hself (l1 + (1 : Int32)) (i_wI M 61 (Int32.toNatClampNeg l1) (M.1 67 (Int32.toNatClampNeg l1))) _ h
    · replace h := (if_neg c1).symm.trans h
      refine i_rbF (c := l1 < (30 : Int32)) (t := 42) (n := 60) rfl c1 ?_
      refine i_rs 2 (cf' := (64, [some (.ref 50), some (.int l1)], [.int (M.1 50 24)], i_S X M)) rfl ?_
      obtain rfl := Option.some.inj h
      exact i_rret rfl rfl
def r_back (M : I_M) : Option (Int32 × I_M) :=
  (if (M.1 50 41) = (0 : Int32) then
      some ((-5 : Int32), M)
    else
      r_back_L36 i_F (0 : Int32) (i_wI (i_wI (i_wI M 50 24 (M.1 50 42)) 50 12 (M.1 50 43)) 50 13 (M.1 50 44)))
theorem ok_r_back {X : Nat × (Nat → Int32)} {d : Nat} {M : I_M} {r : (Int32 × I_M)} (hd : 1 ≤ d) (h : r_back M = some r) : I_Ex d 245 [.ref 50] (i_S X M) (some (.int r.1)) (i_S X r.2) := by
  obtain ⟨d, rfl⟩ : ∃ d1, d = d1 + 1 := ⟨d - 1, by omega⟩
  unfold r_back at h
  refine i_ex (e := i_r245) (lv := [some (.ref 50), none]) rfl (Nat.le_of_ble_eq_true rfl) rfl ?_
  show I_RnE (I_Ex d) i_c245 (0, [some (.ref 50), none], [], i_S X M) _ _
  refine i_rs 2 (cf' := (4, [some (.ref 50), none], [.int (M.1 50 41)], i_S X M)) rfl ?_
  by_cases c3 : (M.1 50 41) = (0 : Int32)
  · replace h := (if_pos c3).symm.trans h
    refine i_rbT (c := (M.1 50 41) = (0 : Int32)) (t := 7) (n := 10) rfl c3 ?_
    refine i_rs 1 (cf' := (9, [some (.ref 50), none], [.int (-5 : Int32)], i_S X M)) rfl ?_
    obtain rfl := Option.some.inj h
    exact i_rret rfl rfl
  · replace h := (if_neg c3).symm.trans h
    refine i_rbF (c := (M.1 50 41) = (0 : Int32)) (t := 7) (n := 10) rfl c3 ?_
    refine i_rs 14 (cf' := (36, [some (.ref 50), some (.int (0 : Int32))], [], i_S X (i_wI (i_wI (i_wI M 50 24 (M.1 50 42)) 50 12 (M.1 50 43)) 50 13 (M.1 50 44)))) rfl ?_
    refine i_fg (lv' := [some (.ref 50), some (.int (0 : Int32))]) (And.intro rfl (And.intro rfl True.intro)) ?_
    refine ok_r_back_L36 (by omega) i_F (0 : Int32) (i_wI (i_wI (i_wI M 50 24 (M.1 50 42)) 50 12 (M.1 50 43)) 50 13 (M.1 50 44)) _ h
def b_Changes_stepBack (M : I_M) : Option I_M :=
  some (i_wI (i_wI M 31 4 ((M.1 31 4) - (1 : Int32))) 31 5 ((M.1 31 5) + (1 : Int32)))
theorem ok_b_Changes_stepBack {X : Nat × (Nat → Int32)} {d : Nat} {M : I_M} {r : I_M} (hd : 1 ≤ d) (h : b_Changes_stepBack M = some r) : I_Ex d 137 [.ref 31] (i_S X M) none (i_S X r) := by
  obtain ⟨d, rfl⟩ : ∃ d1, d = d1 + 1 := ⟨d - 1, by omega⟩
  unfold b_Changes_stepBack at h
  refine i_ex (e := i_r137) (lv := [some (.ref 31)]) rfl (Nat.le_of_ble_eq_true rfl) rfl ?_
  show I_RnE (I_Ex d) i_c137 (0, [some (.ref 31)], [], i_S X M) _ _
  refine i_rs 12 (cf' := (20, [some (.ref 31)], [], i_S X (i_wI (i_wI M 31 4 ((M.1 31 4) - (1 : Int32))) 31 5 ((M.1 31 5) + (1 : Int32))))) rfl ?_
  obtain rfl := Option.some.inj h
  exact i_rret rfl rfl
def b_undo (M : I_M) : Option (Int32 × I_M) :=
  (if (M.1 31 4) = (0 : Int32) then
      some ((-5 : Int32), M)
    else
      Option.bind (b_Changes_stepBack M) (fun q2 => i_g (q2.1 31 4) 40 (Option.bind (b_setValue (q2.1 32 (Int32.toNatClampNeg (q2.1 31 4))) (q2.1 33 (Int32.toNatClampNeg (q2.1 31 4))) (q2.1 34 (Int32.toNatClampNeg (q2.1 31 4))) q2) (fun q4 => some ((q4.1 31 4), q4)))))
theorem ok_b_undo {X : Nat × (Nat → Int32)} {d : Nat} {M : I_M} {r : (Int32 × I_M)} (hd : 2 ≤ d) (h : b_undo M = some r) : I_Ex d 136 [.ref 0] (i_S X M) (some (.int r.1)) (i_S X r.2) := by
  obtain ⟨d, rfl⟩ : ∃ d1, d = d1 + 1 := ⟨d - 1, by omega⟩
  unfold b_undo at h
  refine i_ex (e := i_r136) (lv := [some (.ref 0), none]) rfl (Nat.le_of_ble_eq_true rfl) rfl ?_
  show I_RnE (I_Ex d) i_c136 (0, [some (.ref 0), none], [], i_S X M) _ _
  refine i_rs 3 (cf' := (7, [some (.ref 0), none], [.int (M.1 31 4)], i_S X M)) rfl ?_
  by_cases c1 : (M.1 31 4) = (0 : Int32)
  · replace h := (if_pos c1).symm.trans h
    refine i_rbT (c := (M.1 31 4) = (0 : Int32)) (t := 10) (n := 13) rfl c1 ?_
    refine i_rs 1 (cf' := (12, [some (.ref 0), none], [.int (-5 : Int32)], i_S X M)) rfl ?_
    obtain rfl := Option.some.inj h
    exact i_rret rfl rfl
  · replace h := (if_neg c1).symm.trans h
    refine i_rbF (c := (M.1 31 4) = (0 : Int32)) (t := 10) (n := 13) rfl c1 ?_
    refine i_rs 2 (cf' := (17, [some (.ref 0), none], [.ref 31], i_S X M)) rfl ?_
    obtain ⟨q2, hq2, h⟩ := i_bdE h
    refine i_rcall (k := 137) (as := [.ref 31]) (cf1 := (20, [some (.ref 0), none], [], i_S X M)) (cf' := (20, [some (.ref 0), none], [], i_S X q2)) rfl (ok_b_Changes_stepBack (by omega) hq2) rfl ?_
    refine i_rs 9 (cf' := (37, [some (.ref 0), some (.int (q2.1 31 4))], [.int (q2.1 31 4), .ref 32, .ref 0], i_S X q2)) rfl ?_
    obtain ⟨g3, h⟩ := i_gE h
    refine i_riald (n := 40) (cf' := (38, [some (.ref 0), some (.int (q2.1 31 4))], [.int (q2.1 32 (Int32.toNatClampNeg (q2.1 31 4))), .ref 0], i_S X q2)) rfl rfl (by decide) g3 rfl ?_
    refine i_rs 4 (cf' := (46, [some (.ref 0), some (.int (q2.1 31 4))], [.int (q2.1 31 4), .ref 33, .int (q2.1 32 (Int32.toNatClampNeg (q2.1 31 4))), .ref 0], i_S X q2)) rfl ?_
    refine i_riald (n := 40) (cf' := (47, [some (.ref 0), some (.int (q2.1 31 4))], [.int (q2.1 33 (Int32.toNatClampNeg (q2.1 31 4))), .int (q2.1 32 (Int32.toNatClampNeg (q2.1 31 4))), .ref 0], i_S X q2)) rfl rfl (by decide) g3 rfl ?_
    refine i_rs 4 (cf' := (55, [some (.ref 0), some (.int (q2.1 31 4))], [.int (q2.1 31 4), .ref 34, .int (q2.1 33 (Int32.toNatClampNeg (q2.1 31 4))), .int (q2.1 32 (Int32.toNatClampNeg (q2.1 31 4))), .ref 0], i_S X q2)) rfl ?_
    refine i_riald (n := 40) (cf' := (56, [some (.ref 0), some (.int (q2.1 31 4))], [.int (q2.1 34 (Int32.toNatClampNeg (q2.1 31 4))), .int (q2.1 33 (Int32.toNatClampNeg (q2.1 31 4))), .int (q2.1 32 (Int32.toNatClampNeg (q2.1 31 4))), .ref 0], i_S X q2)) rfl rfl (by decide) g3 rfl ?_
    obtain ⟨q4, hq4, h⟩ := i_bdE h
    refine i_rcall (k := 34) (as := [.ref 0, .int (q2.1 32 (Int32.toNatClampNeg (q2.1 31 4))), .int (q2.1 33 (Int32.toNatClampNeg (q2.1 31 4))), .int (q2.1 34 (Int32.toNatClampNeg (q2.1 31 4)))]) (cf1 := (59, [some (.ref 0), some (.int (q2.1 31 4))], [], i_S X q2)) (cf' := (59, [some (.ref 0), some (.int (q2.1 31 4))], [], i_S X q4)) rfl (ok_b_setValue (by omega) hq4) rfl ?_
    refine i_rs 3 (cf' := (66, [some (.ref 0), some (.int (q2.1 31 4))], [.int (q4.1 31 4)], i_S X q4)) rfl ?_
    obtain rfl := Option.some.inj h
    exact i_rret rfl rfl
def r_undo (M : I_M) : Option (Int32 × I_M) :=
  (if (M.1 50 5) = (0 : Int32) then
      some ((-5 : Int32), M)
    else
      i_g ((M.1 50 5) - (1 : Int32)) 40 (i_g (M.1 52 (Int32.toNatClampNeg ((M.1 50 5) - (1 : Int32)))) 60 (some (((M.1 50 5) - (1 : Int32)), (i_wI (i_wI M 50 5 ((M.1 50 5) - (1 : Int32))) 51 (Int32.toNatClampNeg (M.1 52 (Int32.toNatClampNeg ((M.1 50 5) - (1 : Int32))))) (M.1 53 (Int32.toNatClampNeg ((M.1 50 5) - (1 : Int32)))))))))
theorem ok_r_undo {X : Nat × (Nat → Int32)} {d : Nat} {M : I_M} {r : (Int32 × I_M)} (hd : 1 ≤ d) (h : r_undo M = some r) : I_Ex d 172 [.ref 50] (i_S X M) (some (.int r.1)) (i_S X r.2) := by
  obtain ⟨d, rfl⟩ : ∃ d1, d = d1 + 1 := ⟨d - 1, by omega⟩
  unfold r_undo at h
  refine i_ex (e := i_r172) (lv := [some (.ref 50)]) rfl (Nat.le_of_ble_eq_true rfl) rfl ?_
  show I_RnE (I_Ex d) i_c172 (0, [some (.ref 50)], [], i_S X M) _ _
  refine i_rs 2 (cf' := (4, [some (.ref 50)], [.int (M.1 50 5)], i_S X M)) rfl ?_
  by_cases c1 : (M.1 50 5) = (0 : Int32)
  · replace h := (if_pos c1).symm.trans h
    refine i_rbT (c := (M.1 50 5) = (0 : Int32)) (t := 7) (n := 10) rfl c1 ?_
    refine i_rs 1 (cf' := (9, [some (.ref 50)], [.int (-5 : Int32)], i_S X M)) rfl ?_
    obtain rfl := Option.some.inj h
    exact i_rret rfl rfl
  · replace h := (if_neg c1).symm.trans h
    refine i_rbF (c := (M.1 50 5) = (0 : Int32)) (t := 7) (n := 10) rfl c1 ?_
    refine i_rs 12 (cf' := (32, [some (.ref 50)], [.int ((M.1 50 5) - (1 : Int32)), .ref 52, .ref 51], i_S X (i_wI M 50 5 ((M.1 50 5) - (1 : Int32))))) rfl ?_
    obtain ⟨g2, h⟩ := i_gE h
    refine i_riald (n := 40) (cf' := (33, [some (.ref 50)], [.int (M.1 52 (Int32.toNatClampNeg ((M.1 50 5) - (1 : Int32)))), .ref 51], i_S X (i_wI M 50 5 ((M.1 50 5) - (1 : Int32))))) rfl rfl (by decide) g2 rfl ?_
    refine i_rs 4 (cf' := (41, [some (.ref 50)], [.int ((M.1 50 5) - (1 : Int32)), .ref 53, .int (M.1 52 (Int32.toNatClampNeg ((M.1 50 5) - (1 : Int32)))), .ref 51], i_S X (i_wI M 50 5 ((M.1 50 5) - (1 : Int32))))) rfl ?_
    refine i_riald (n := 40) (cf' := (42, [some (.ref 50)], [.int (M.1 53 (Int32.toNatClampNeg ((M.1 50 5) - (1 : Int32)))), .int (M.1 52 (Int32.toNatClampNeg ((M.1 50 5) - (1 : Int32)))), .ref 51], i_S X (i_wI M 50 5 ((M.1 50 5) - (1 : Int32))))) rfl rfl (by decide) g2 rfl ?_
    obtain ⟨g3, h⟩ := i_gE h
    refine i_riast (n := 60) (cf' := (43, [some (.ref 50)], [], i_S X (i_wI (i_wI M 50 5 ((M.1 50 5) - (1 : Int32))) 51 (Int32.toNatClampNeg (M.1 52 (Int32.toNatClampNeg ((M.1 50 5) - (1 : Int32))))) (M.1 53 (Int32.toNatClampNeg ((M.1 50 5) - (1 : Int32))))))) rfl rfl (Or.inl rfl) g3 rfl ?_
    refine i_rs 2 (cf' := (47, [some (.ref 50)], [.int ((M.1 50 5) - (1 : Int32))], i_S X (i_wI (i_wI M 50 5 ((M.1 50 5) - (1 : Int32))) 51 (Int32.toNatClampNeg (M.1 52 (Int32.toNatClampNeg ((M.1 50 5) - (1 : Int32))))) (M.1 53 (Int32.toNatClampNeg ((M.1 50 5) - (1 : Int32))))))) rfl ?_
    obtain rfl := Option.some.inj h
    exact i_rret rfl rfl
def b_Changes_stepOn (M : I_M) : Option I_M :=
  some (i_wI (i_wI M 31 4 ((M.1 31 4) + (1 : Int32))) 31 5 ((M.1 31 5) - (1 : Int32)))
theorem ok_b_Changes_stepOn {X : Nat × (Nat → Int32)} {d : Nat} {M : I_M} {r : I_M} (hd : 1 ≤ d) (h : b_Changes_stepOn M = some r) : I_Ex d 139 [.ref 31] (i_S X M) none (i_S X r) := by
  obtain ⟨d, rfl⟩ : ∃ d1, d = d1 + 1 := ⟨d - 1, by omega⟩
  unfold b_Changes_stepOn at h
  refine i_ex (e := i_r139) (lv := [some (.ref 31)]) rfl (Nat.le_of_ble_eq_true rfl) rfl ?_
  show I_RnE (I_Ex d) i_c139 (0, [some (.ref 31)], [], i_S X M) _ _
  refine i_rs 12 (cf' := (20, [some (.ref 31)], [], i_S X (i_wI (i_wI M 31 4 ((M.1 31 4) + (1 : Int32))) 31 5 ((M.1 31 5) - (1 : Int32))))) rfl ?_
  obtain rfl := Option.some.inj h
  exact i_rret rfl rfl
def b_redo (M : I_M) : Option (Int32 × I_M) :=
  (if (M.1 31 5) = (0 : Int32) then
      some ((-5 : Int32), M)
    else
      Option.bind (b_Changes_stepOn M) (fun q2 => i_g (M.1 31 4) 40 (Option.bind (b_setValue (q2.1 32 (Int32.toNatClampNeg (M.1 31 4))) (q2.1 33 (Int32.toNatClampNeg (M.1 31 4))) (q2.1 35 (Int32.toNatClampNeg (M.1 31 4))) q2) (fun q4 => some ((q4.1 31 5), q4)))))
theorem ok_b_redo {X : Nat × (Nat → Int32)} {d : Nat} {M : I_M} {r : (Int32 × I_M)} (hd : 2 ≤ d) (h : b_redo M = some r) : I_Ex d 138 [.ref 0] (i_S X M) (some (.int r.1)) (i_S X r.2) := by
  obtain ⟨d, rfl⟩ : ∃ d1, d = d1 + 1 := ⟨d - 1, by omega⟩
  unfold b_redo at h
  refine i_ex (e := i_r138) (lv := [some (.ref 0), none]) rfl (Nat.le_of_ble_eq_true rfl) rfl ?_
  show I_RnE (I_Ex d) i_c138 (0, [some (.ref 0), none], [], i_S X M) _ _
  refine i_rs 3 (cf' := (7, [some (.ref 0), none], [.int (M.1 31 5)], i_S X M)) rfl ?_
  by_cases c1 : (M.1 31 5) = (0 : Int32)
  · replace h := (if_pos c1).symm.trans h
    refine i_rbT (c := (M.1 31 5) = (0 : Int32)) (t := 10) (n := 13) rfl c1 ?_
    refine i_rs 1 (cf' := (12, [some (.ref 0), none], [.int (-5 : Int32)], i_S X M)) rfl ?_
    obtain rfl := Option.some.inj h
    exact i_rret rfl rfl
  · replace h := (if_neg c1).symm.trans h
    refine i_rbF (c := (M.1 31 5) = (0 : Int32)) (t := 10) (n := 13) rfl c1 ?_
    refine i_rs 6 (cf' := (25, [some (.ref 0), some (.int (M.1 31 4))], [.ref 31], i_S X M)) rfl ?_
    obtain ⟨q2, hq2, h⟩ := i_bdE h
    refine i_rcall (k := 139) (as := [.ref 31]) (cf1 := (28, [some (.ref 0), some (.int (M.1 31 4))], [], i_S X M)) (cf' := (28, [some (.ref 0), some (.int (M.1 31 4))], [], i_S X q2)) rfl (ok_b_Changes_stepOn (by omega) hq2) rfl ?_
    refine i_rs 5 (cf' := (37, [some (.ref 0), some (.int (M.1 31 4))], [.int (M.1 31 4), .ref 32, .ref 0], i_S X q2)) rfl ?_
    obtain ⟨g3, h⟩ := i_gE h
    refine i_riald (n := 40) (cf' := (38, [some (.ref 0), some (.int (M.1 31 4))], [.int (q2.1 32 (Int32.toNatClampNeg (M.1 31 4))), .ref 0], i_S X q2)) rfl rfl (by decide) g3 rfl ?_
    refine i_rs 4 (cf' := (46, [some (.ref 0), some (.int (M.1 31 4))], [.int (M.1 31 4), .ref 33, .int (q2.1 32 (Int32.toNatClampNeg (M.1 31 4))), .ref 0], i_S X q2)) rfl ?_
    refine i_riald (n := 40) (cf' := (47, [some (.ref 0), some (.int (M.1 31 4))], [.int (q2.1 33 (Int32.toNatClampNeg (M.1 31 4))), .int (q2.1 32 (Int32.toNatClampNeg (M.1 31 4))), .ref 0], i_S X q2)) rfl rfl (by decide) g3 rfl ?_
    refine i_rs 4 (cf' := (55, [some (.ref 0), some (.int (M.1 31 4))], [.int (M.1 31 4), .ref 35, .int (q2.1 33 (Int32.toNatClampNeg (M.1 31 4))), .int (q2.1 32 (Int32.toNatClampNeg (M.1 31 4))), .ref 0], i_S X q2)) rfl ?_
    refine i_riald (n := 40) (cf' := (56, [some (.ref 0), some (.int (M.1 31 4))], [.int (q2.1 35 (Int32.toNatClampNeg (M.1 31 4))), .int (q2.1 33 (Int32.toNatClampNeg (M.1 31 4))), .int (q2.1 32 (Int32.toNatClampNeg (M.1 31 4))), .ref 0], i_S X q2)) rfl rfl (by decide) g3 rfl ?_
    obtain ⟨q4, hq4, h⟩ := i_bdE h
    refine i_rcall (k := 34) (as := [.ref 0, .int (q2.1 32 (Int32.toNatClampNeg (M.1 31 4))), .int (q2.1 33 (Int32.toNatClampNeg (M.1 31 4))), .int (q2.1 35 (Int32.toNatClampNeg (M.1 31 4)))]) (cf1 := (59, [some (.ref 0), some (.int (M.1 31 4))], [], i_S X q2)) (cf' := (59, [some (.ref 0), some (.int (M.1 31 4))], [], i_S X q4)) rfl (ok_b_setValue (by omega) hq4) rfl ?_
    refine i_rs 3 (cf' := (66, [some (.ref 0), some (.int (M.1 31 4))], [.int (q4.1 31 5)], i_S X q4)) rfl ?_
    obtain rfl := Option.some.inj h
    exact i_rret rfl rfl
def r_redo (M : I_M) : Option (Int32 × I_M) :=
  (if (M.1 50 5) = (M.1 50 4) then
      some ((-5 : Int32), M)
    else
      i_g (M.1 50 5) 40 (i_g (M.1 52 (Int32.toNatClampNeg (M.1 50 5))) 60 (some (((M.1 50 4) - ((M.1 50 5) + (1 : Int32))), (i_wI (i_wI M 51 (Int32.toNatClampNeg (M.1 52 (Int32.toNatClampNeg (M.1 50 5)))) (M.1 54 (Int32.toNatClampNeg (M.1 50 5)))) 50 5 ((M.1 50 5) + (1 : Int32)))))))
theorem ok_r_redo {X : Nat × (Nat → Int32)} {d : Nat} {M : I_M} {r : (Int32 × I_M)} (hd : 1 ≤ d) (h : r_redo M = some r) : I_Ex d 173 [.ref 50] (i_S X M) (some (.int r.1)) (i_S X r.2) := by
  obtain ⟨d, rfl⟩ : ∃ d1, d = d1 + 1 := ⟨d - 1, by omega⟩
  unfold r_redo at h
  refine i_ex (e := i_r173) (lv := [some (.ref 50)]) rfl (Nat.le_of_ble_eq_true rfl) rfl ?_
  show I_RnE (I_Ex d) i_c173 (0, [some (.ref 50)], [], i_S X M) _ _
  refine i_rs 4 (cf' := (8, [some (.ref 50)], [.int (M.1 50 4), .int (M.1 50 5)], i_S X M)) rfl ?_
  by_cases c1 : (M.1 50 5) = (M.1 50 4)
  · replace h := (if_pos c1).symm.trans h
    refine i_rbT (c := (M.1 50 5) = (M.1 50 4)) (t := 11) (n := 14) rfl c1 ?_
    refine i_rs 1 (cf' := (13, [some (.ref 50)], [.int (-5 : Int32)], i_S X M)) rfl ?_
    obtain rfl := Option.some.inj h
    exact i_rret rfl rfl
  · replace h := (if_neg c1).symm.trans h
    refine i_rbF (c := (M.1 50 5) = (M.1 50 4)) (t := 11) (n := 14) rfl c1 ?_
    refine i_rs 6 (cf' := (26, [some (.ref 50)], [.int (M.1 50 5), .ref 52, .ref 51], i_S X M)) rfl ?_
    obtain ⟨g2, h⟩ := i_gE h
    refine i_riald (n := 40) (cf' := (27, [some (.ref 50)], [.int (M.1 52 (Int32.toNatClampNeg (M.1 50 5))), .ref 51], i_S X M)) rfl rfl (by decide) g2 rfl ?_
    refine i_rs 4 (cf' := (35, [some (.ref 50)], [.int (M.1 50 5), .ref 54, .int (M.1 52 (Int32.toNatClampNeg (M.1 50 5))), .ref 51], i_S X M)) rfl ?_
    refine i_riald (n := 40) (cf' := (36, [some (.ref 50)], [.int (M.1 54 (Int32.toNatClampNeg (M.1 50 5))), .int (M.1 52 (Int32.toNatClampNeg (M.1 50 5))), .ref 51], i_S X M)) rfl rfl (by decide) g2 rfl ?_
    obtain ⟨g3, h⟩ := i_gE h
    refine i_riast (n := 60) (cf' := (37, [some (.ref 50)], [], i_S X (i_wI M 51 (Int32.toNatClampNeg (M.1 52 (Int32.toNatClampNeg (M.1 50 5)))) (M.1 54 (Int32.toNatClampNeg (M.1 50 5)))))) rfl rfl (Or.inl rfl) g3 rfl ?_
    refine i_rs 11 (cf' := (56, [some (.ref 50)], [.int ((M.1 50 4) - ((M.1 50 5) + (1 : Int32)))], i_S X (i_wI (i_wI M 51 (Int32.toNatClampNeg (M.1 52 (Int32.toNatClampNeg (M.1 50 5)))) (M.1 54 (Int32.toNatClampNeg (M.1 50 5)))) 50 5 ((M.1 50 5) + (1 : Int32))))) rfl ?_
    obtain rfl := Option.some.inj h
    exact i_rret rfl rfl
def b_Bodies_isKind (l0 : Int32) (M : I_M) : Option (Int32 × I_M) :=
  (if l0 < (0 : Int32) then
      some ((0 : Int32), M)
    else
      (if l0 < (8 : Int32) then
        some ((1 : Int32), M)
      else
        some ((0 : Int32), M)))
theorem ok_b_Bodies_isKind {X : Nat × (Nat → Int32)} {d : Nat} {l0 : Int32} {M : I_M} {r : (Int32 × I_M)} (hd : 1 ≤ d) (h : b_Bodies_isKind l0 M = some r) : I_Ex d 141 [.int l0] (i_S X M) (some (.int r.1)) (i_S X r.2) := by
  obtain ⟨d, rfl⟩ : ∃ d1, d = d1 + 1 := ⟨d - 1, by omega⟩
  unfold b_Bodies_isKind at h
  refine i_ex (e := i_r141) (lv := [some (.int l0)]) rfl (Nat.le_of_ble_eq_true rfl) rfl ?_
  show I_RnE (I_Ex d) i_c141 (0, [some (.int l0)], [], i_S X M) _ _
  refine i_rs 1 (cf' := (1, [some (.int l0)], [.int l0], i_S X M)) rfl ?_
  by_cases c1 : l0 < (0 : Int32)
  · replace h := (if_pos c1).symm.trans h
    refine i_rbT (c := l0 < (0 : Int32)) (t := 14) (n := 4) rfl c1 ?_
    refine i_rs 1 (cf' := (15, [some (.int l0)], [.int (0 : Int32)], i_S X M)) rfl ?_
    obtain rfl := Option.some.inj h
    exact i_rretZ rfl (Or.inl rfl) rfl
  · replace h := (if_neg c1).symm.trans h
    refine i_rbF (c := l0 < (0 : Int32)) (t := 14) (n := 4) rfl c1 ?_
    refine i_rs 2 (cf' := (7, [some (.int l0)], [.int (8 : Int32), .int l0], i_S X M)) rfl ?_
    by_cases c2 : l0 < (8 : Int32)
    · replace h := (if_pos c2).symm.trans h
      refine i_rbT (c := l0 < (8 : Int32)) (t := 10) (n := 14) rfl c2 ?_
      refine i_rs 2 (cf' := (15, [some (.int l0)], [.int (1 : Int32)], i_S X M)) rfl ?_
      obtain rfl := Option.some.inj h
      exact i_rretZ rfl (Or.inr rfl) rfl
    · replace h := (if_neg c2).symm.trans h
      refine i_rbF (c := l0 < (8 : Int32)) (t := 10) (n := 14) rfl c2 ?_
      refine i_rs 1 (cf' := (15, [some (.int l0)], [.int (0 : Int32)], i_S X M)) rfl ?_
      obtain rfl := Option.some.inj h
      exact i_rretZ rfl (Or.inl rfl) rfl
def b_Bodies_add (l1 : Int32) (M : I_M) : Option (Int32 × I_M) :=
  (if (M.1 38 1) < (50 : Int32) then
      i_g (M.1 38 1) 50 (some ((1 : Int32), (i_wI (i_wI M 39 (Int32.toNatClampNeg (M.1 38 1)) l1) 38 1 ((M.1 38 1) + (1 : Int32)))))
    else
      some ((0 : Int32), M))
theorem ok_b_Bodies_add {X : Nat × (Nat → Int32)} {d : Nat} {l1 : Int32} {M : I_M} {r : (Int32 × I_M)} (hd : 1 ≤ d) (h : b_Bodies_add l1 M = some r) : I_Ex d 142 [.ref 38, .int l1] (i_S X M) (some (.int r.1)) (i_S X r.2) := by
  obtain ⟨d, rfl⟩ : ∃ d1, d = d1 + 1 := ⟨d - 1, by omega⟩
  unfold b_Bodies_add at h
  refine i_ex (e := i_r142) (lv := [some (.ref 38), some (.int l1)]) rfl (Nat.le_of_ble_eq_true rfl) rfl ?_
  show I_RnE (I_Ex d) i_c142 (0, [some (.ref 38), some (.int l1)], [], i_S X M) _ _
  refine i_rs 3 (cf' := (6, [some (.ref 38), some (.int l1)], [.int (50 : Int32), .int (M.1 38 1)], i_S X M)) rfl ?_
  by_cases c1 : (M.1 38 1) < (50 : Int32)
  · replace h := (if_pos c1).symm.trans h
    refine i_rbT (c := (M.1 38 1) < (50 : Int32)) (t := 11) (n := 9) rfl c1 ?_
    refine i_rs 5 (cf' := (20, [some (.ref 38), some (.int l1)], [.int l1, .int (M.1 38 1), .ref 39], i_S X M)) rfl ?_
    obtain ⟨g2, h⟩ := i_gE h
    refine i_riast (n := 50) (cf' := (21, [some (.ref 38), some (.int l1)], [], i_S X (i_wI M 39 (Int32.toNatClampNeg (M.1 38 1)) l1))) rfl rfl (Or.inl rfl) g2 rfl ?_
    refine i_rs 7 (cf' := (32, [some (.ref 38), some (.int l1)], [.int (1 : Int32)], i_S X (i_wI (i_wI M 39 (Int32.toNatClampNeg (M.1 38 1)) l1) 38 1 ((M.1 38 1) + (1 : Int32))))) rfl ?_
    obtain rfl := Option.some.inj h
    exact i_rretZ rfl (Or.inr rfl) rfl
  · replace h := (if_neg c1).symm.trans h
    refine i_rbF (c := (M.1 38 1) < (50 : Int32)) (t := 11) (n := 9) rfl c1 ?_
    refine i_rs 1 (cf' := (10, [some (.ref 38), some (.int l1)], [.int (0 : Int32)], i_S X M)) rfl ?_
    obtain rfl := Option.some.inj h
    exact i_rretZ rfl (Or.inl rfl) rfl
def b_body (l1 : Int32) (M : I_M) : Option (Int32 × I_M) :=
  Option.bind (b_Bodies_isKind l1 M) (fun q1 => (if q1.1 = (0 : Int32) then
      some ((-1 : Int32), q1.2)
    else
      Option.bind (b_Bodies_add l1 q1.2) (fun q3 => (if q3.1 = (0 : Int32) then
        some ((-3 : Int32), q3.2)
      else
        some (((q3.2.1 38 1) - (1 : Int32)), q3.2)))))
theorem ok_b_body {X : Nat × (Nat → Int32)} {d : Nat} {l1 : Int32} {M : I_M} {r : (Int32 × I_M)} (hd : 2 ≤ d) (h : b_body l1 M = some r) : I_Ex d 140 [.ref 0, .int l1] (i_S X M) (some (.int r.1)) (i_S X r.2) := by
  obtain ⟨d, rfl⟩ : ∃ d1, d = d1 + 1 := ⟨d - 1, by omega⟩
  unfold b_body at h
  refine i_ex (e := i_r140) (lv := [some (.ref 0), some (.int l1)]) rfl (Nat.le_of_ble_eq_true rfl) rfl ?_
  show I_RnE (I_Ex d) i_c140 (0, [some (.ref 0), some (.int l1)], [], i_S X M) _ _
  refine i_rs 1 (cf' := (1, [some (.ref 0), some (.int l1)], [.int l1], i_S X M)) rfl ?_
  obtain ⟨q1, hq1, h⟩ := i_bdE h
  refine i_rcall (k := 141) (as := [.int l1]) (cf1 := (4, [some (.ref 0), some (.int l1)], [], i_S X M)) (cf' := (4, [some (.ref 0), some (.int l1)], [.int q1.1], i_S X q1.2)) rfl (ok_b_Bodies_isKind (by omega) hq1) rfl ?_
  by_cases c2 : q1.1 = (0 : Int32)
  · replace h := (if_pos c2).symm.trans h
    refine i_rbT (c := q1.1 = (0 : Int32)) (t := 7) (n := 9) rfl c2 ?_
    refine i_rs 1 (cf' := (8, [some (.ref 0), some (.int l1)], [.int (-1 : Int32)], i_S X q1.2)) rfl ?_
    obtain rfl := Option.some.inj h
    exact i_rret rfl rfl
  · replace h := (if_neg c2).symm.trans h
    refine i_rbF (c := q1.1 = (0 : Int32)) (t := 7) (n := 9) rfl c2 ?_
    refine i_rs 3 (cf' := (14, [some (.ref 0), some (.int l1)], [.int l1, .ref 38], i_S X q1.2)) rfl ?_
    obtain ⟨q3, hq3, h⟩ := i_bdE h
    refine i_rcall (k := 142) (as := [.ref 38, .int l1]) (cf1 := (17, [some (.ref 0), some (.int l1)], [], i_S X q1.2)) (cf' := (17, [some (.ref 0), some (.int l1)], [.int q3.1], i_S X q3.2)) rfl (ok_b_Bodies_add (by omega) hq3) rfl ?_
    by_cases c4 : q3.1 = (0 : Int32)
    · replace h := (if_pos c4).symm.trans h
      refine i_rbT (c := q3.1 = (0 : Int32)) (t := 32) (n := 20) rfl c4 ?_
      refine i_rs 1 (cf' := (34, [some (.ref 0), some (.int l1)], [.int (-3 : Int32)], i_S X q3.2)) rfl ?_
      obtain rfl := Option.some.inj h
      exact i_rret rfl rfl
    · replace h := (if_neg c4).symm.trans h
      refine i_rbF (c := q3.1 = (0 : Int32)) (t := 32) (n := 20) rfl c4 ?_
      refine i_rs 6 (cf' := (34, [some (.ref 0), some (.int l1)], [.int ((q3.2.1 38 1) - (1 : Int32))], i_S X q3.2)) rfl ?_
      obtain rfl := Option.some.inj h
      exact i_rret rfl rfl
def r_body (l1 : Int32) (M : I_M) : Option (Int32 × I_M) :=
  Option.bind (r_within (Int32.toInt64 l1) (0 : Int64) (7 : Int64) M) (fun q1 => (if q1.1 = (0 : Int32) then
      some ((-1 : Int32), q1.2)
    else
      (if (q1.2.1 50 46) = (50 : Int32) then
        some ((-3 : Int32), q1.2)
      else
        i_g (q1.2.1 50 46) 50 (some ((((q1.2.1 50 46) + (1 : Int32)) - (1 : Int32)), (i_wI (i_wI q1.2 68 (Int32.toNatClampNeg (q1.2.1 50 46)) l1) 50 46 ((q1.2.1 50 46) + (1 : Int32))))))))
theorem ok_r_body {X : Nat × (Nat → Int32)} {d : Nat} {l1 : Int32} {M : I_M} {r : (Int32 × I_M)} (hd : 2 ≤ d) (h : r_body l1 M = some r) : I_Ex d 246 [.ref 50, .int l1] (i_S X M) (some (.int r.1)) (i_S X r.2) := by
  obtain ⟨d, rfl⟩ : ∃ d1, d = d1 + 1 := ⟨d - 1, by omega⟩
  unfold r_body at h
  refine i_ex (e := i_r246) (lv := [some (.ref 50), some (.int l1)]) rfl (Nat.le_of_ble_eq_true rfl) rfl ?_
  show I_RnE (I_Ex d) i_c246 (0, [some (.ref 50), some (.int l1)], [], i_S X M) _ _
  refine i_rs 4 (cf' := (6, [some (.ref 50), some (.int l1)], [.long (7 : Int64), .long (0 : Int64), .long (Int32.toInt64 l1)], i_S X M)) rfl ?_
  obtain ⟨q1, hq1, h⟩ := i_bdE h
  refine i_rcall (k := 175) (as := [.long (Int32.toInt64 l1), .long (0 : Int64), .long (7 : Int64)]) (cf1 := (9, [some (.ref 50), some (.int l1)], [], i_S X M)) (cf' := (9, [some (.ref 50), some (.int l1)], [.int q1.1], i_S X q1.2)) rfl (ok_r_within (by omega) hq1) rfl ?_
  by_cases c2 : q1.1 = (0 : Int32)
  · replace h := (if_pos c2).symm.trans h
    refine i_rbT (c := q1.1 = (0 : Int32)) (t := 12) (n := 14) rfl c2 ?_
    refine i_rs 1 (cf' := (13, [some (.ref 50), some (.int l1)], [.int (-1 : Int32)], i_S X q1.2)) rfl ?_
    obtain rfl := Option.some.inj h
    exact i_rret rfl rfl
  · replace h := (if_neg c2).symm.trans h
    refine i_rbF (c := q1.1 = (0 : Int32)) (t := 12) (n := 14) rfl c2 ?_
    refine i_rs 3 (cf' := (20, [some (.ref 50), some (.int l1)], [.int (50 : Int32), .int (q1.2.1 50 46)], i_S X q1.2)) rfl ?_
    by_cases c3 : (q1.2.1 50 46) = (50 : Int32)
    · replace h := (if_pos c3).symm.trans h
      refine i_rbT (c := (q1.2.1 50 46) = (50 : Int32)) (t := 23) (n := 26) rfl c3 ?_
      refine i_rs 1 (cf' := (25, [some (.ref 50), some (.int l1)], [.int (-3 : Int32)], i_S X q1.2)) rfl ?_
      obtain rfl := Option.some.inj h
      exact i_rret rfl rfl
    · replace h := (if_neg c3).symm.trans h
      refine i_rbF (c := (q1.2.1 50 46) = (50 : Int32)) (t := 23) (n := 26) rfl c3 ?_
      refine i_rs 5 (cf' := (35, [some (.ref 50), some (.int l1)], [.int l1, .int (q1.2.1 50 46), .ref 68], i_S X q1.2)) rfl ?_
      obtain ⟨g4, h⟩ := i_gE h
      refine i_riast (n := 50) (cf' := (36, [some (.ref 50), some (.int l1)], [], i_S X (i_wI q1.2 68 (Int32.toNatClampNeg (q1.2.1 50 46)) l1))) rfl rfl (Or.inl rfl) g4 rfl ?_
      refine i_rs 10 (cf' := (52, [some (.ref 50), some (.int l1)], [.int (((q1.2.1 50 46) + (1 : Int32)) - (1 : Int32))], i_S X (i_wI (i_wI q1.2 68 (Int32.toNatClampNeg (q1.2.1 50 46)) l1) 50 46 ((q1.2.1 50 46) + (1 : Int32))))) rfl ?_
      obtain rfl := Option.some.inj h
      exact i_rret rfl rfl
def b_Bodies_has (l1 : Int32) (M : I_M) : Option (Int32 × I_M) :=
  (if l1 < (0 : Int32) then
      some ((0 : Int32), M)
    else
      (if l1 < (M.1 38 1) then
        some ((1 : Int32), M)
      else
        some ((0 : Int32), M)))
theorem ok_b_Bodies_has {X : Nat × (Nat → Int32)} {d : Nat} {l1 : Int32} {M : I_M} {r : (Int32 × I_M)} (hd : 1 ≤ d) (h : b_Bodies_has l1 M = some r) : I_Ex d 145 [.ref 38, .int l1] (i_S X M) (some (.int r.1)) (i_S X r.2) := by
  obtain ⟨d, rfl⟩ : ∃ d1, d = d1 + 1 := ⟨d - 1, by omega⟩
  unfold b_Bodies_has at h
  refine i_ex (e := i_r145) (lv := [some (.ref 38), some (.int l1)]) rfl (Nat.le_of_ble_eq_true rfl) rfl ?_
  show I_RnE (I_Ex d) i_c145 (0, [some (.ref 38), some (.int l1)], [], i_S X M) _ _
  refine i_rs 1 (cf' := (1, [some (.ref 38), some (.int l1)], [.int l1], i_S X M)) rfl ?_
  by_cases c1 : l1 < (0 : Int32)
  · replace h := (if_pos c1).symm.trans h
    refine i_rbT (c := l1 < (0 : Int32)) (t := 16) (n := 4) rfl c1 ?_
    refine i_rs 1 (cf' := (17, [some (.ref 38), some (.int l1)], [.int (0 : Int32)], i_S X M)) rfl ?_
    obtain rfl := Option.some.inj h
    exact i_rretZ rfl (Or.inl rfl) rfl
  · replace h := (if_neg c1).symm.trans h
    refine i_rbF (c := l1 < (0 : Int32)) (t := 16) (n := 4) rfl c1 ?_
    refine i_rs 3 (cf' := (9, [some (.ref 38), some (.int l1)], [.int (M.1 38 1), .int l1], i_S X M)) rfl ?_
    by_cases c2 : l1 < (M.1 38 1)
    · replace h := (if_pos c2).symm.trans h
      refine i_rbT (c := l1 < (M.1 38 1)) (t := 12) (n := 16) rfl c2 ?_
      refine i_rs 2 (cf' := (17, [some (.ref 38), some (.int l1)], [.int (1 : Int32)], i_S X M)) rfl ?_
      obtain rfl := Option.some.inj h
      exact i_rretZ rfl (Or.inr rfl) rfl
    · replace h := (if_neg c2).symm.trans h
      refine i_rbF (c := l1 < (M.1 38 1)) (t := 12) (n := 16) rfl c2 ?_
      refine i_rs 1 (cf' := (17, [some (.ref 38), some (.int l1)], [.int (0 : Int32)], i_S X M)) rfl ?_
      obtain rfl := Option.some.inj h
      exact i_rretZ rfl (Or.inl rfl) rfl
def b_Bodies_bodyFrom_L4 (l1 : Int32) (k29 : Int32 → I_M → Option (Int32 × I_M)) : Nat → Int32 → Int32 → I_M → Option (Int32 × I_M)
  | 0, _, _, _ => none
  | n + 1, l2, l3, M =>
    (if l3 < (8 : Int32) then
        Option.bind (b_Bodies_isKind l2 M) (fun q2 => (if q2.1 = (0 : Int32) then
          some ((0 : Int32), q2.2)
        else
          i_g ((l2 * (4 : Int32)) + l1) 32 ((if (i_x102 (Int32.toNatClampNeg ((l2 * (4 : Int32)) + l1))) = (0 : Int32) then
            i_g l2 8 ((b_Bodies_bodyFrom_L4 l1 k29 n) (i_x103 (Int32.toNatClampNeg l2)) (l3 + (1 : Int32)) q2.2)
          else
            k29 l2 q2.2))))
      else
        some ((0 : Int32), M))
theorem ok_b_Bodies_bodyFrom_L4 {X : Nat × (Nat → Int32)} {d : Nat} {l1 : Int32} {k29 : Int32 → I_M → Option (Int32 × I_M)} (hd : 2 ≤ d + 1) (hk29 : ∀ (l2 : Int32) (M : I_M) (r : (Int32 × I_M)), k29 l2 M = some r → I_RnE (I_Ex d) i_c148 (29, [none, some (.int l1), some (.int l2), none], [], i_S X M) (some (.int r.1)) (i_S X r.2)) : ∀ (n : Nat) (l2 : Int32) (l3 : Int32) (M : I_M) (r : (Int32 × I_M)), b_Bodies_bodyFrom_L4 l1 k29 n l2 l3 M = some r → I_RnE (I_Ex d) i_c148 (4, [none, some (.int l1), some (.int l2), some (.int l3)], [], i_S X M) (some (.int r.1)) (i_S X r.2) := by
  intro n
  induction n with
  | zero => intro _ _ M r h; cases h
  | succ n hself =>
    intro l2 l3 M r h
    rw [b_Bodies_bodyFrom_L4] at h
    refine i_rs 2 (cf' := (7, [none, some (.int l1), some (.int l2), some (.int l3)], [.int (8 : Int32), .int l3], i_S X M)) rfl ?_
    by_cases c1 : l3 < (8 : Int32)
    · replace h := (if_pos c1).symm.trans h
      refine i_rbT (c := l3 < (8 : Int32)) (t := 10) (n := 51) rfl c1 ?_
      refine i_rs 1 (cf' := (11, [none, some (.int l1), some (.int l2), some (.int l3)], [.int l2], i_S X M)) rfl ?_
      obtain ⟨q2, hq2, h⟩ := i_bdE h
      refine i_rcall (k := 141) (as := [.int l2]) (cf1 := (14, [none, some (.int l1), some (.int l2), some (.int l3)], [], i_S X M)) (cf' := (14, [none, some (.int l1), some (.int l2), some (.int l3)], [.int q2.1], i_S X q2.2)) rfl (ok_b_Bodies_isKind (by omega) hq2) rfl ?_
      by_cases c3 : q2.1 = (0 : Int32)
      · replace h := (if_pos c3).symm.trans h
        refine i_rbT (c := q2.1 = (0 : Int32)) (t := 51) (n := 17) rfl c3 ?_
        refine i_rs 1 (cf' := (52, [none, some (.int l1), some (.int l2), some (.int l3)], [.int (0 : Int32)], i_S X q2.2)) rfl ?_
        obtain rfl := Option.some.inj h
        exact i_rret rfl rfl
      · replace h := (if_neg c3).symm.trans h
        refine i_rbF (c := q2.1 = (0 : Int32)) (t := 51) (n := 17) rfl c3 ?_
        refine i_rs 6 (cf' := (25, [none, some (.int l1), some (.int l2), some (.int l3)], [.int ((l2 * (4 : Int32)) + l1), .ref 102], i_S X q2.2)) rfl ?_
        obtain ⟨g4, h⟩ := i_gE h
        refine i_riald (n := 32) (cf' := (26, [none, some (.int l1), some (.int l2), some (.int l3)], [.int (i_x102 (Int32.toNatClampNeg ((l2 * (4 : Int32)) + l1)))], i_S X q2.2)) rfl rfl (by decide) g4 rfl ?_
        by_cases c5 : (i_x102 (Int32.toNatClampNeg ((l2 * (4 : Int32)) + l1))) = (0 : Int32)
        · replace h := (if_pos c5).symm.trans h
          refine i_rbT (c := (i_x102 (Int32.toNatClampNeg ((l2 * (4 : Int32)) + l1))) = (0 : Int32)) (t := 39) (n := 29) rfl c5 ?_
          refine i_rs 2 (cf' := (43, [none, some (.int l1), some (.int l2), some (.int l3)], [.int l2, .ref 103], i_S X q2.2)) rfl ?_
          obtain ⟨g6, h⟩ := i_gE h
          refine i_riald (n := 8) (cf' := (44, [none, some (.int l1), some (.int l2), some (.int l3)], [.int (i_x103 (Int32.toNatClampNeg l2))], i_S X q2.2)) rfl rfl (by decide) g6 rfl ?_
          refine i_rs 3 (cf' := (4, [none, some (.int l1), some (.int (i_x103 (Int32.toNatClampNeg l2))), some (.int (l3 + (1 : Int32)))], [], i_S X q2.2)) rfl ?_
          refine i_fg (lv' := [none, some (.int l1), some (.int (i_x103 (Int32.toNatClampNeg l2))), some (.int (l3 + (1 : Int32)))]) (And.intro rfl (And.intro rfl (And.intro rfl True.intro))) ?_
          exact hself (i_x103 (Int32.toNatClampNeg l2)) (l3 + (1 : Int32)) q2.2 _ h
        · replace h := (if_neg c5).symm.trans h
          refine i_rbF (c := (i_x102 (Int32.toNatClampNeg ((l2 * (4 : Int32)) + l1))) = (0 : Int32)) (t := 39) (n := 29) rfl c5 ?_
          refine i_fg (lv' := [none, some (.int l1), some (.int l2), none]) (And.intro rfl (And.intro rfl True.intro)) ?_
          exact hk29 l2 q2.2 _ h
    · replace h := (if_neg c1).symm.trans h
      refine i_rbF (c := l3 < (8 : Int32)) (t := 10) (n := 51) rfl c1 ?_
      refine i_rs 1 (cf' := (52, [none, some (.int l1), some (.int l2), some (.int l3)], [.int (0 : Int32)], i_S X M)) rfl ?_
      obtain rfl := Option.some.inj h
      exact i_rret rfl rfl
def b_Bodies_bodyFrom (l0 : Int32) (l1 : Int32) (M : I_M) : Option (Int32 × I_M) :=
  b_Bodies_bodyFrom_L4 l1 (fun l2_7 M7 =>
        i_g ((l2_7 * (4 : Int32)) + l1) 32 (some ((i_x102 (Int32.toNatClampNeg ((l2_7 * (4 : Int32)) + l1))), M7))) i_F l0 (0 : Int32) M
theorem ok_b_Bodies_bodyFrom {X : Nat × (Nat → Int32)} {d : Nat} {l0 : Int32} {l1 : Int32} {M : I_M} {r : (Int32 × I_M)} (hd : 2 ≤ d) (h : b_Bodies_bodyFrom l0 l1 M = some r) : I_Ex d 148 [.int l0, .int l1] (i_S X M) (some (.int r.1)) (i_S X r.2) := by
  obtain ⟨d, rfl⟩ : ∃ d1, d = d1 + 1 := ⟨d - 1, by omega⟩
  unfold b_Bodies_bodyFrom at h
  refine i_ex (e := i_r148) (lv := [some (.int l0), some (.int l1), none, none]) rfl (Nat.le_of_ble_eq_true rfl) rfl ?_
  show I_RnE (I_Ex d) i_c148 (0, [some (.int l0), some (.int l1), none, none], [], i_S X M) _ _
  refine i_rs 4 (cf' := (4, [some (.int l0), some (.int l1), some (.int l0), some (.int (0 : Int32))], [], i_S X M)) rfl ?_
  refine i_fg (lv' := [none, some (.int l1), some (.int l0), some (.int (0 : Int32))]) (And.intro rfl (And.intro rfl (And.intro rfl True.intro))) ?_
  refine ok_b_Bodies_bodyFrom_L4 (by omega) (fun l2_7 M7 r h => ?_) i_F l0 (0 : Int32) M _ h
  refine i_rs 6 (cf' := (37, [none, some (.int l1), some (.int l2_7), none], [.int ((l2_7 * (4 : Int32)) + l1), .ref 102], i_S X M7)) rfl ?_
  obtain ⟨g8, h⟩ := i_gE h
  refine i_riald (n := 32) (cf' := (38, [none, some (.int l1), some (.int l2_7), none], [.int (i_x102 (Int32.toNatClampNeg ((l2_7 * (4 : Int32)) + l1)))], i_S X M7)) rfl rfl (by decide) g8 rfl ?_
  obtain rfl := Option.some.inj h
  exact i_rret rfl rfl
def b_Bodies_begin (l1 : Int32) (M : I_M) : Option I_M :=
  (if (M.1 38 3) < (24 : Int32) then
      i_g (M.1 38 3) 24 (some (i_wI (i_wI M 40 (Int32.toNatClampNeg (M.1 38 3)) l1) 38 3 ((M.1 38 3) + (1 : Int32))))
    else
      some (i_wI M 38 3 ((M.1 38 3) + (1 : Int32))))
theorem ok_b_Bodies_begin {X : Nat × (Nat → Int32)} {d : Nat} {l1 : Int32} {M : I_M} {r : I_M} (hd : 1 ≤ d) (h : b_Bodies_begin l1 M = some r) : I_Ex d 149 [.ref 38, .int l1] (i_S X M) none (i_S X r) := by
  obtain ⟨d, rfl⟩ : ∃ d1, d = d1 + 1 := ⟨d - 1, by omega⟩
  unfold b_Bodies_begin at h
  refine i_ex (e := i_r149) (lv := [some (.ref 38), some (.int l1)]) rfl (Nat.le_of_ble_eq_true rfl) rfl ?_
  show I_RnE (I_Ex d) i_c149 (0, [some (.ref 38), some (.int l1)], [], i_S X M) _ _
  refine i_rs 3 (cf' := (6, [some (.ref 38), some (.int l1)], [.int (24 : Int32), .int (M.1 38 3)], i_S X M)) rfl ?_
  by_cases c1 : (M.1 38 3) < (24 : Int32)
  · replace h := (if_pos c1).symm.trans h
    refine i_rbT (c := (M.1 38 3) < (24 : Int32)) (t := 9) (n := 19) rfl c1 ?_
    refine i_rs 5 (cf' := (18, [some (.ref 38), some (.int l1)], [.int l1, .int (M.1 38 3), .ref 40], i_S X M)) rfl ?_
    obtain ⟨g2, h⟩ := i_gE h
    refine i_riast (n := 24) (cf' := (19, [some (.ref 38), some (.int l1)], [], i_S X (i_wI M 40 (Int32.toNatClampNeg (M.1 38 3)) l1))) rfl rfl (Or.inl rfl) g2 rfl ?_
    refine i_rs 6 (cf' := (29, [some (.ref 38), some (.int l1)], [], i_S X (i_wI (i_wI M 40 (Int32.toNatClampNeg (M.1 38 3)) l1) 38 3 ((M.1 38 3) + (1 : Int32))))) rfl ?_
    obtain rfl := Option.some.inj h
    exact i_rret rfl rfl
  · replace h := (if_neg c1).symm.trans h
    refine i_rbF (c := (M.1 38 3) < (24 : Int32)) (t := 9) (n := 19) rfl c1 ?_
    refine i_rs 6 (cf' := (29, [some (.ref 38), some (.int l1)], [], i_S X (i_wI M 38 3 ((M.1 38 3) + (1 : Int32))))) rfl ?_
    obtain rfl := Option.some.inj h
    exact i_rret rfl rfl
def b_Bodies_own (rec_b_Bodies_from : Int32 → Int32 → Int32 → Int32 → I_M → Option (Int32 × I_M)) (l1 : Int32) (l2 : Int32) (l3 : Int32) (M : I_M) : Option (Int32 × I_M) :=
  i_g (M.1 38 4) 50 (Option.bind (rec_b_Bodies_from (M.1 39 (Int32.toNatClampNeg (M.1 38 4))) l1 l2 l3 M) (fun q2 => some (q2.1, q2.2)))
theorem ok_b_Bodies_own {X : Nat × (Nat → Int32)} {d : Nat} {rec_b_Bodies_from : Int32 → Int32 → Int32 → Int32 → I_M → Option (Int32 × I_M)} {l1 : Int32} {l2 : Int32} {l3 : Int32} {M : I_M} {r : (Int32 × I_M)} {N : Nat} (hN : 6 ≤ N) (hr_b_Bodies_from : ∀ (d : Nat), N ≤ d → ∀ (a1 : Int32) (a2 : Int32) (a3 : Int32) (a4 : Int32) (M : I_M) (q : (Int32 × I_M)), rec_b_Bodies_from a1 a2 a3 a4 M = some q → I_Ex d 147 [.ref 38, .int a1, .int a2, .int a3, .int a4] (i_S X M) (some (.int q.1)) (i_S X q.2)) (hd : N + 1 ≤ d) (h : b_Bodies_own rec_b_Bodies_from l1 l2 l3 M = some r) : I_Ex d 146 [.ref 38, .int l1, .int l2, .int l3] (i_S X M) (some (.int r.1)) (i_S X r.2) := by
  obtain ⟨d, rfl⟩ : ∃ d1, d = d1 + 1 := ⟨d - 1, by omega⟩
  unfold b_Bodies_own at h
  refine i_ex (e := i_r146) (lv := [some (.ref 38), some (.int l1), some (.int l2), some (.int l3)]) rfl (Nat.le_of_ble_eq_true rfl) rfl ?_
  show I_RnE (I_Ex d) i_c146 (0, [some (.ref 38), some (.int l1), some (.int l2), some (.int l3)], [], i_S X M) _ _
  refine i_rs 5 (cf' := (9, [some (.ref 38), some (.int l1), some (.int l2), some (.int l3)], [.int (M.1 38 4), .ref 39, .ref 38], i_S X M)) rfl ?_
  obtain ⟨g1, h⟩ := i_gE h
  refine i_riald (n := 50) (cf' := (10, [some (.ref 38), some (.int l1), some (.int l2), some (.int l3)], [.int (M.1 39 (Int32.toNatClampNeg (M.1 38 4))), .ref 38], i_S X M)) rfl rfl (by decide) g1 rfl ?_
  refine i_rs 3 (cf' := (13, [some (.ref 38), some (.int l1), some (.int l2), some (.int l3)], [.int l3, .int l2, .int l1, .int (M.1 39 (Int32.toNatClampNeg (M.1 38 4))), .ref 38], i_S X M)) rfl ?_
  obtain ⟨q2, hq2, h⟩ := i_bdE h
  refine i_rcall (k := 147) (as := [.ref 38, .int (M.1 39 (Int32.toNatClampNeg (M.1 38 4))), .int l1, .int l2, .int l3]) (cf1 := (16, [some (.ref 38), some (.int l1), some (.int l2), some (.int l3)], [], i_S X M)) (cf' := (16, [some (.ref 38), some (.int l1), some (.int l2), some (.int l3)], [.int q2.1], i_S X q2.2)) rfl (hr_b_Bodies_from _ (by omega) _ _ _ _ _ _ hq2) rfl ?_
  obtain rfl := Option.some.inj h
  exact i_rret rfl rfl
def b_Bodies_above (rec_b_Bodies_from : Int32 → Int32 → Int32 → Int32 → I_M → Option (Int32 × I_M)) (l1 : Int32) (l2 : Int32) (l3 : Int32) (l4 : Int32) (M : I_M) : Option (Int32 × I_M) :=
  i_g l1 8 (Option.bind (rec_b_Bodies_from (i_x103 (Int32.toNatClampNeg l1)) l2 l3 l4 M) (fun q2 => some (q2.1, q2.2)))
theorem ok_b_Bodies_above {X : Nat × (Nat → Int32)} {d : Nat} {rec_b_Bodies_from : Int32 → Int32 → Int32 → Int32 → I_M → Option (Int32 × I_M)} {l1 : Int32} {l2 : Int32} {l3 : Int32} {l4 : Int32} {M : I_M} {r : (Int32 × I_M)} {N : Nat} (hN : 6 ≤ N) (hr_b_Bodies_from : ∀ (d : Nat), N ≤ d → ∀ (a1 : Int32) (a2 : Int32) (a3 : Int32) (a4 : Int32) (M : I_M) (q : (Int32 × I_M)), rec_b_Bodies_from a1 a2 a3 a4 M = some q → I_Ex d 147 [.ref 38, .int a1, .int a2, .int a3, .int a4] (i_S X M) (some (.int q.1)) (i_S X q.2)) (hd : N + 1 ≤ d) (h : b_Bodies_above rec_b_Bodies_from l1 l2 l3 l4 M = some r) : I_Ex d 151 [.ref 38, .int l1, .int l2, .int l3, .int l4] (i_S X M) (some (.int r.1)) (i_S X r.2) := by
  obtain ⟨d, rfl⟩ : ∃ d1, d = d1 + 1 := ⟨d - 1, by omega⟩
  unfold b_Bodies_above at h
  refine i_ex (e := i_r151) (lv := [some (.ref 38), some (.int l1), some (.int l2), some (.int l3), some (.int l4)]) rfl (Nat.le_of_ble_eq_true rfl) rfl ?_
  show I_RnE (I_Ex d) i_c151 (0, [some (.ref 38), some (.int l1), some (.int l2), some (.int l3), some (.int l4)], [], i_S X M) _ _
  refine i_rs 3 (cf' := (5, [some (.ref 38), some (.int l1), some (.int l2), some (.int l3), some (.int l4)], [.int l1, .ref 103, .ref 38], i_S X M)) rfl ?_
  obtain ⟨g1, h⟩ := i_gE h
  refine i_riald (n := 8) (cf' := (6, [some (.ref 38), some (.int l1), some (.int l2), some (.int l3), some (.int l4)], [.int (i_x103 (Int32.toNatClampNeg l1)), .ref 38], i_S X M)) rfl rfl (by decide) g1 rfl ?_
  refine i_rs 3 (cf' := (10, [some (.ref 38), some (.int l1), some (.int l2), some (.int l3), some (.int l4)], [.int l4, .int l3, .int l2, .int (i_x103 (Int32.toNatClampNeg l1)), .ref 38], i_S X M)) rfl ?_
  obtain ⟨q2, hq2, h⟩ := i_bdE h
  refine i_rcall (k := 147) (as := [.ref 38, .int (i_x103 (Int32.toNatClampNeg l1)), .int l2, .int l3, .int l4]) (cf1 := (13, [some (.ref 38), some (.int l1), some (.int l2), some (.int l3), some (.int l4)], [], i_S X M)) (cf' := (13, [some (.ref 38), some (.int l1), some (.int l2), some (.int l3), some (.int l4)], [.int q2.1], i_S X q2.2)) rfl (hr_b_Bodies_from _ (by omega) _ _ _ _ _ _ hq2) rfl ?_
  obtain rfl := Option.some.inj h
  exact i_rret rfl rfl
def b_Bodies_runBody (rec_b_Bodies_from : Int32 → Int32 → Int32 → Int32 → I_M → Option (Int32 × I_M)) (l1 : Int32) (l2 : Int32) (l3 : Int32) (M : I_M) : Option (Int32 × I_M) :=
  (if l1 = (1 : Int32) then
      some ((l2 + (M.1 38 4)), M)
    else
      (if l1 = (2 : Int32) then
        Option.bind (b_Bodies_own rec_b_Bodies_from (1 : Int32) l2 l3 M) (fun q3 => Option.bind (b_Bodies_own rec_b_Bodies_from (2 : Int32) (1 : Int32) l3 q3.2) (fun q4 => some ((q3.1 - q4.1), q4.2)))
      else
        (if l1 = (10 : Int32) then
          Option.bind (b_Bodies_own rec_b_Bodies_from (0 : Int32) l2 l3 M) (fun q6 => some ((q6.1 * (2 : Int32)), q6.2))
        else
          (if l1 = (11 : Int32) then
            some ((l2 ^^^ (M.1 38 4)), M)
          else
            (if l1 = (20 : Int32) then
              Option.bind (b_Bodies_above rec_b_Bodies_from (1 : Int32) (0 : Int32) l2 l3 M) (fun q9 => some ((q9.1 + (3 : Int32)), q9.2))
            else
              (if l1 = (30 : Int32) then
                Option.bind (b_Bodies_above rec_b_Bodies_from (2 : Int32) (1 : Int32) l2 l3 M) (fun q11 => some ((-q11.1), q11.2))
              else
                (if l1 = (40 : Int32) then
                  Option.bind (b_Bodies_above rec_b_Bodies_from (3 : Int32) (2 : Int32) l2 l3 M) (fun q13 => some ((q13.1 * (3 : Int32)), q13.2))
                else
                  (if l1 = (41 : Int32) then
                    Option.bind (b_Bodies_above rec_b_Bodies_from (3 : Int32) (1 : Int32) (l2 + (1 : Int32)) l3 M) (fun q15 => some (q15.1, q15.2))
                  else
                    (if l1 = (50 : Int32) then
                      Option.bind (b_Bodies_above rec_b_Bodies_from (4 : Int32) (2 : Int32) l2 l3 M) (fun q17 => Option.bind (b_Bodies_own rec_b_Bodies_from (0 : Int32) (2 : Int32) l3 q17.2) (fun q18 => some ((q17.1 - q18.1), q18.2)))
                    else
                      (if l1 = (60 : Int32) then
                        Option.bind (b_Bodies_above rec_b_Bodies_from (5 : Int32) (3 : Int32) l2 l3 M) (fun q20 => some ((q20.1 ^^^ (5 : Int32)), q20.2))
                      else
                        (if l1 = (70 : Int32) then
                          Option.bind (b_Bodies_above rec_b_Bodies_from (6 : Int32) (0 : Int32) l2 l3 M) (fun q22 => some ((q22.1 * (2 : Int32)), q22.2))
                        else
                          (if l1 = (80 : Int32) then
                            Option.bind (b_Bodies_above rec_b_Bodies_from (7 : Int32) (1 : Int32) l2 l3 M) (fun q24 => Option.bind (b_Bodies_own rec_b_Bodies_from (2 : Int32) (2 : Int32) l3 q24.2) (fun q25 => some ((q24.1 + q25.1), q25.2)))
                          else
                            (if l1 = (81 : Int32) then
                              Option.bind (b_Bodies_above rec_b_Bodies_from (7 : Int32) (3 : Int32) l2 l3 M) (fun q27 => some ((q27.1 - (1 : Int32)), q27.2))
                            else
                              some ((0 : Int32), M))))))))))))))
theorem ok_b_Bodies_runBody {X : Nat × (Nat → Int32)} {d : Nat} {rec_b_Bodies_from : Int32 → Int32 → Int32 → Int32 → I_M → Option (Int32 × I_M)} {l1 : Int32} {l2 : Int32} {l3 : Int32} {M : I_M} {r : (Int32 × I_M)} {N : Nat} (hN : 6 ≤ N) (hr_b_Bodies_from : ∀ (d : Nat), N ≤ d → ∀ (a1 : Int32) (a2 : Int32) (a3 : Int32) (a4 : Int32) (M : I_M) (q : (Int32 × I_M)), rec_b_Bodies_from a1 a2 a3 a4 M = some q → I_Ex d 147 [.ref 38, .int a1, .int a2, .int a3, .int a4] (i_S X M) (some (.int q.1)) (i_S X q.2)) (hd : N + 2 ≤ d) (h : b_Bodies_runBody rec_b_Bodies_from l1 l2 l3 M = some r) : I_Ex d 150 [.ref 38, .int l1, .int l2, .int l3] (i_S X M) (some (.int r.1)) (i_S X r.2) := by
  obtain ⟨d, rfl⟩ : ∃ d1, d = d1 + 1 := ⟨d - 1, by omega⟩
  unfold b_Bodies_runBody at h
  refine i_ex (e := i_r150) (lv := [some (.ref 38), some (.int l1), some (.int l2), some (.int l3)]) rfl (Nat.le_of_ble_eq_true rfl) rfl ?_
  show I_RnE (I_Ex d) i_c150 (0, [some (.ref 38), some (.int l1), some (.int l2), some (.int l3)], [], i_S X M) _ _
  refine i_rs 1 (cf' := (1, [some (.ref 38), some (.int l1), some (.int l2), some (.int l3)], [.int l1], i_S X M)) rfl ?_
  refine i_stp1 (cf' := (i_sw l1 269 [(1, 116), (2, 123), (10, 139), (11, 149), (20, 156), (30, 167), (40, 177), (41, 188), (50, 199), (60, 216), (70, 227), (80, 239), (81, 257)], [some (.ref 38), some (.int l1), some (.int l2), some (.int l3)], [], i_S X M)) rfl ?_
  by_cases c1 : l1 = (1 : Int32)
  · replace h := (if_pos c1).symm.trans h
    refine i_rswT c1 ?_
    refine i_rs 4 (cf' := (122, [some (.ref 38), some (.int l1), some (.int l2), some (.int l3)], [.int (l2 + (M.1 38 4))], i_S X M)) rfl ?_
    obtain rfl := Option.some.inj h
    exact i_rret rfl rfl
  · replace h := (if_neg c1).symm.trans h
    refine i_rswF c1 ?_
    by_cases c2 : l1 = (2 : Int32)
    · replace h := (if_pos c2).symm.trans h
      refine i_rswT c2 ?_
      refine i_rs 4 (cf' := (127, [some (.ref 38), some (.int l1), some (.int l2), some (.int l3)], [.int l3, .int l2, .int (1 : Int32), .ref 38], i_S X M)) rfl ?_
      obtain ⟨q3, hq3, h⟩ := i_bdE h
      refine i_rcall (k := 146) (as := [.ref 38, .int (1 : Int32), .int l2, .int l3]) (cf1 := (130, [some (.ref 38), some (.int l1), some (.int l2), some (.int l3)], [], i_S X M)) (cf' := (130, [some (.ref 38), some (.int l1), some (.int l2), some (.int l3)], [.int q3.1], i_S X q3.2)) rfl (ok_b_Bodies_own hN hr_b_Bodies_from (by omega) hq3) rfl ?_
      refine i_rs 4 (cf' := (134, [some (.ref 38), some (.int l1), some (.int l2), some (.int l3)], [.int l3, .int (1 : Int32), .int (2 : Int32), .ref 38, .int q3.1], i_S X q3.2)) rfl ?_
      obtain ⟨q4, hq4, h⟩ := i_bdE h
      refine i_rcall (k := 146) (as := [.ref 38, .int (2 : Int32), .int (1 : Int32), .int l3]) (cf1 := (137, [some (.ref 38), some (.int l1), some (.int l2), some (.int l3)], [.int q3.1], i_S X q3.2)) (cf' := (137, [some (.ref 38), some (.int l1), some (.int l2), some (.int l3)], [.int q4.1, .int q3.1], i_S X q4.2)) rfl (ok_b_Bodies_own hN hr_b_Bodies_from (by omega) hq4) rfl ?_
      refine i_rs 1 (cf' := (138, [some (.ref 38), some (.int l1), some (.int l2), some (.int l3)], [.int (q3.1 - q4.1)], i_S X q4.2)) rfl ?_
      obtain rfl := Option.some.inj h
      exact i_rret rfl rfl
    · replace h := (if_neg c2).symm.trans h
      refine i_rswF c2 ?_
      by_cases c5 : l1 = (10 : Int32)
      · replace h := (if_pos c5).symm.trans h
        refine i_rswT c5 ?_
        refine i_rs 4 (cf' := (143, [some (.ref 38), some (.int l1), some (.int l2), some (.int l3)], [.int l3, .int l2, .int (0 : Int32), .ref 38], i_S X M)) rfl ?_
        obtain ⟨q6, hq6, h⟩ := i_bdE h
        refine i_rcall (k := 146) (as := [.ref 38, .int (0 : Int32), .int l2, .int l3]) (cf1 := (146, [some (.ref 38), some (.int l1), some (.int l2), some (.int l3)], [], i_S X M)) (cf' := (146, [some (.ref 38), some (.int l1), some (.int l2), some (.int l3)], [.int q6.1], i_S X q6.2)) rfl (ok_b_Bodies_own hN hr_b_Bodies_from (by omega) hq6) rfl ?_
        refine i_rs 2 (cf' := (148, [some (.ref 38), some (.int l1), some (.int l2), some (.int l3)], [.int (q6.1 * (2 : Int32))], i_S X q6.2)) rfl ?_
        obtain rfl := Option.some.inj h
        exact i_rret rfl rfl
      · replace h := (if_neg c5).symm.trans h
        refine i_rswF c5 ?_
        by_cases c7 : l1 = (11 : Int32)
        · replace h := (if_pos c7).symm.trans h
          refine i_rswT c7 ?_
          refine i_rs 4 (cf' := (155, [some (.ref 38), some (.int l1), some (.int l2), some (.int l3)], [.int (l2 ^^^ (M.1 38 4))], i_S X M)) rfl ?_
          obtain rfl := Option.some.inj h
          exact i_rret rfl rfl
        · replace h := (if_neg c7).symm.trans h
          refine i_rswF c7 ?_
          by_cases c8 : l1 = (20 : Int32)
          · replace h := (if_pos c8).symm.trans h
            refine i_rswT c8 ?_
            refine i_rs 5 (cf' := (161, [some (.ref 38), some (.int l1), some (.int l2), some (.int l3)], [.int l3, .int l2, .int (0 : Int32), .int (1 : Int32), .ref 38], i_S X M)) rfl ?_
            obtain ⟨q9, hq9, h⟩ := i_bdE h
            refine i_rcall (k := 151) (as := [.ref 38, .int (1 : Int32), .int (0 : Int32), .int l2, .int l3]) (cf1 := (164, [some (.ref 38), some (.int l1), some (.int l2), some (.int l3)], [], i_S X M)) (cf' := (164, [some (.ref 38), some (.int l1), some (.int l2), some (.int l3)], [.int q9.1], i_S X q9.2)) rfl (ok_b_Bodies_above hN hr_b_Bodies_from (by omega) hq9) rfl ?_
            refine i_rs 2 (cf' := (166, [some (.ref 38), some (.int l1), some (.int l2), some (.int l3)], [.int (q9.1 + (3 : Int32))], i_S X q9.2)) rfl ?_
            obtain rfl := Option.some.inj h
            exact i_rret rfl rfl
          · replace h := (if_neg c8).symm.trans h
            refine i_rswF c8 ?_
            by_cases c10 : l1 = (30 : Int32)
            · replace h := (if_pos c10).symm.trans h
              refine i_rswT c10 ?_
              refine i_rs 5 (cf' := (172, [some (.ref 38), some (.int l1), some (.int l2), some (.int l3)], [.int l3, .int l2, .int (1 : Int32), .int (2 : Int32), .ref 38], i_S X M)) rfl ?_
              obtain ⟨q11, hq11, h⟩ := i_bdE h
              refine i_rcall (k := 151) (as := [.ref 38, .int (2 : Int32), .int (1 : Int32), .int l2, .int l3]) (cf1 := (175, [some (.ref 38), some (.int l1), some (.int l2), some (.int l3)], [], i_S X M)) (cf' := (175, [some (.ref 38), some (.int l1), some (.int l2), some (.int l3)], [.int q11.1], i_S X q11.2)) rfl (ok_b_Bodies_above hN hr_b_Bodies_from (by omega) hq11) rfl ?_
              refine i_rs 1 (cf' := (176, [some (.ref 38), some (.int l1), some (.int l2), some (.int l3)], [.int (-q11.1)], i_S X q11.2)) rfl ?_
              obtain rfl := Option.some.inj h
              exact i_rret rfl rfl
            · replace h := (if_neg c10).symm.trans h
              refine i_rswF c10 ?_
              by_cases c12 : l1 = (40 : Int32)
              · replace h := (if_pos c12).symm.trans h
                refine i_rswT c12 ?_
                refine i_rs 5 (cf' := (182, [some (.ref 38), some (.int l1), some (.int l2), some (.int l3)], [.int l3, .int l2, .int (2 : Int32), .int (3 : Int32), .ref 38], i_S X M)) rfl ?_
                obtain ⟨q13, hq13, h⟩ := i_bdE h
                refine i_rcall (k := 151) (as := [.ref 38, .int (3 : Int32), .int (2 : Int32), .int l2, .int l3]) (cf1 := (185, [some (.ref 38), some (.int l1), some (.int l2), some (.int l3)], [], i_S X M)) (cf' := (185, [some (.ref 38), some (.int l1), some (.int l2), some (.int l3)], [.int q13.1], i_S X q13.2)) rfl (ok_b_Bodies_above hN hr_b_Bodies_from (by omega) hq13) rfl ?_
                refine i_rs 2 (cf' := (187, [some (.ref 38), some (.int l1), some (.int l2), some (.int l3)], [.int (q13.1 * (3 : Int32))], i_S X q13.2)) rfl ?_
                obtain rfl := Option.some.inj h
                exact i_rret rfl rfl
              · replace h := (if_neg c12).symm.trans h
                refine i_rswF c12 ?_
                by_cases c14 : l1 = (41 : Int32)
                · replace h := (if_pos c14).symm.trans h
                  refine i_rswT c14 ?_
                  refine i_rs 7 (cf' := (195, [some (.ref 38), some (.int l1), some (.int l2), some (.int l3)], [.int l3, .int (l2 + (1 : Int32)), .int (1 : Int32), .int (3 : Int32), .ref 38], i_S X M)) rfl ?_
                  obtain ⟨q15, hq15, h⟩ := i_bdE h
                  refine i_rcall (k := 151) (as := [.ref 38, .int (3 : Int32), .int (1 : Int32), .int (l2 + (1 : Int32)), .int l3]) (cf1 := (198, [some (.ref 38), some (.int l1), some (.int l2), some (.int l3)], [], i_S X M)) (cf' := (198, [some (.ref 38), some (.int l1), some (.int l2), some (.int l3)], [.int q15.1], i_S X q15.2)) rfl (ok_b_Bodies_above hN hr_b_Bodies_from (by omega) hq15) rfl ?_
                  obtain rfl := Option.some.inj h
                  exact i_rret rfl rfl
                · replace h := (if_neg c14).symm.trans h
                  refine i_rswF c14 ?_
                  by_cases c16 : l1 = (50 : Int32)
                  · replace h := (if_pos c16).symm.trans h
                    refine i_rswT c16 ?_
                    refine i_rs 5 (cf' := (204, [some (.ref 38), some (.int l1), some (.int l2), some (.int l3)], [.int l3, .int l2, .int (2 : Int32), .int (4 : Int32), .ref 38], i_S X M)) rfl ?_
                    obtain ⟨q17, hq17, h⟩ := i_bdE h
                    refine i_rcall (k := 151) (as := [.ref 38, .int (4 : Int32), .int (2 : Int32), .int l2, .int l3]) (cf1 := (207, [some (.ref 38), some (.int l1), some (.int l2), some (.int l3)], [], i_S X M)) (cf' := (207, [some (.ref 38), some (.int l1), some (.int l2), some (.int l3)], [.int q17.1], i_S X q17.2)) rfl (ok_b_Bodies_above hN hr_b_Bodies_from (by omega) hq17) rfl ?_
                    refine i_rs 4 (cf' := (211, [some (.ref 38), some (.int l1), some (.int l2), some (.int l3)], [.int l3, .int (2 : Int32), .int (0 : Int32), .ref 38, .int q17.1], i_S X q17.2)) rfl ?_
                    obtain ⟨q18, hq18, h⟩ := i_bdE h
                    refine i_rcall (k := 146) (as := [.ref 38, .int (0 : Int32), .int (2 : Int32), .int l3]) (cf1 := (214, [some (.ref 38), some (.int l1), some (.int l2), some (.int l3)], [.int q17.1], i_S X q17.2)) (cf' := (214, [some (.ref 38), some (.int l1), some (.int l2), some (.int l3)], [.int q18.1, .int q17.1], i_S X q18.2)) rfl (ok_b_Bodies_own hN hr_b_Bodies_from (by omega) hq18) rfl ?_
                    refine i_rs 1 (cf' := (215, [some (.ref 38), some (.int l1), some (.int l2), some (.int l3)], [.int (q17.1 - q18.1)], i_S X q18.2)) rfl ?_
                    obtain rfl := Option.some.inj h
                    exact i_rret rfl rfl
                  · replace h := (if_neg c16).symm.trans h
                    refine i_rswF c16 ?_
                    by_cases c19 : l1 = (60 : Int32)
                    · replace h := (if_pos c19).symm.trans h
                      refine i_rswT c19 ?_
                      refine i_rs 5 (cf' := (221, [some (.ref 38), some (.int l1), some (.int l2), some (.int l3)], [.int l3, .int l2, .int (3 : Int32), .int (5 : Int32), .ref 38], i_S X M)) rfl ?_
                      obtain ⟨q20, hq20, h⟩ := i_bdE h
                      refine i_rcall (k := 151) (as := [.ref 38, .int (5 : Int32), .int (3 : Int32), .int l2, .int l3]) (cf1 := (224, [some (.ref 38), some (.int l1), some (.int l2), some (.int l3)], [], i_S X M)) (cf' := (224, [some (.ref 38), some (.int l1), some (.int l2), some (.int l3)], [.int q20.1], i_S X q20.2)) rfl (ok_b_Bodies_above hN hr_b_Bodies_from (by omega) hq20) rfl ?_
                      refine i_rs 2 (cf' := (226, [some (.ref 38), some (.int l1), some (.int l2), some (.int l3)], [.int (q20.1 ^^^ (5 : Int32))], i_S X q20.2)) rfl ?_
                      obtain rfl := Option.some.inj h
                      exact i_rret rfl rfl
                    · replace h := (if_neg c19).symm.trans h
                      refine i_rswF c19 ?_
                      by_cases c21 : l1 = (70 : Int32)
                      · replace h := (if_pos c21).symm.trans h
                        refine i_rswT c21 ?_
                        refine i_rs 5 (cf' := (233, [some (.ref 38), some (.int l1), some (.int l2), some (.int l3)], [.int l3, .int l2, .int (0 : Int32), .int (6 : Int32), .ref 38], i_S X M)) rfl ?_
                        obtain ⟨q22, hq22, h⟩ := i_bdE h
                        refine i_rcall (k := 151) (as := [.ref 38, .int (6 : Int32), .int (0 : Int32), .int l2, .int l3]) (cf1 := (236, [some (.ref 38), some (.int l1), some (.int l2), some (.int l3)], [], i_S X M)) (cf' := (236, [some (.ref 38), some (.int l1), some (.int l2), some (.int l3)], [.int q22.1], i_S X q22.2)) rfl (ok_b_Bodies_above hN hr_b_Bodies_from (by omega) hq22) rfl ?_
                        refine i_rs 2 (cf' := (238, [some (.ref 38), some (.int l1), some (.int l2), some (.int l3)], [.int (q22.1 * (2 : Int32))], i_S X q22.2)) rfl ?_
                        obtain rfl := Option.some.inj h
                        exact i_rret rfl rfl
                      · replace h := (if_neg c21).symm.trans h
                        refine i_rswF c21 ?_
                        by_cases c23 : l1 = (80 : Int32)
                        · replace h := (if_pos c23).symm.trans h
                          refine i_rswT c23 ?_
                          refine i_rs 5 (cf' := (245, [some (.ref 38), some (.int l1), some (.int l2), some (.int l3)], [.int l3, .int l2, .int (1 : Int32), .int (7 : Int32), .ref 38], i_S X M)) rfl ?_
                          obtain ⟨q24, hq24, h⟩ := i_bdE h
                          refine i_rcall (k := 151) (as := [.ref 38, .int (7 : Int32), .int (1 : Int32), .int l2, .int l3]) (cf1 := (248, [some (.ref 38), some (.int l1), some (.int l2), some (.int l3)], [], i_S X M)) (cf' := (248, [some (.ref 38), some (.int l1), some (.int l2), some (.int l3)], [.int q24.1], i_S X q24.2)) rfl (ok_b_Bodies_above hN hr_b_Bodies_from (by omega) hq24) rfl ?_
                          refine i_rs 4 (cf' := (252, [some (.ref 38), some (.int l1), some (.int l2), some (.int l3)], [.int l3, .int (2 : Int32), .int (2 : Int32), .ref 38, .int q24.1], i_S X q24.2)) rfl ?_
                          obtain ⟨q25, hq25, h⟩ := i_bdE h
                          refine i_rcall (k := 146) (as := [.ref 38, .int (2 : Int32), .int (2 : Int32), .int l3]) (cf1 := (255, [some (.ref 38), some (.int l1), some (.int l2), some (.int l3)], [.int q24.1], i_S X q24.2)) (cf' := (255, [some (.ref 38), some (.int l1), some (.int l2), some (.int l3)], [.int q25.1, .int q24.1], i_S X q25.2)) rfl (ok_b_Bodies_own hN hr_b_Bodies_from (by omega) hq25) rfl ?_
                          refine i_rs 1 (cf' := (256, [some (.ref 38), some (.int l1), some (.int l2), some (.int l3)], [.int (q24.1 + q25.1)], i_S X q25.2)) rfl ?_
                          obtain rfl := Option.some.inj h
                          exact i_rret rfl rfl
                        · replace h := (if_neg c23).symm.trans h
                          refine i_rswF c23 ?_
                          by_cases c26 : l1 = (81 : Int32)
                          · replace h := (if_pos c26).symm.trans h
                            refine i_rswT c26 ?_
                            refine i_rs 5 (cf' := (263, [some (.ref 38), some (.int l1), some (.int l2), some (.int l3)], [.int l3, .int l2, .int (3 : Int32), .int (7 : Int32), .ref 38], i_S X M)) rfl ?_
                            obtain ⟨q27, hq27, h⟩ := i_bdE h
                            refine i_rcall (k := 151) (as := [.ref 38, .int (7 : Int32), .int (3 : Int32), .int l2, .int l3]) (cf1 := (266, [some (.ref 38), some (.int l1), some (.int l2), some (.int l3)], [], i_S X M)) (cf' := (266, [some (.ref 38), some (.int l1), some (.int l2), some (.int l3)], [.int q27.1], i_S X q27.2)) rfl (ok_b_Bodies_above hN hr_b_Bodies_from (by omega) hq27) rfl ?_
                            refine i_rs 2 (cf' := (268, [some (.ref 38), some (.int l1), some (.int l2), some (.int l3)], [.int (q27.1 - (1 : Int32))], i_S X q27.2)) rfl ?_
                            obtain rfl := Option.some.inj h
                            exact i_rret rfl rfl
                          · replace h := (if_neg c26).symm.trans h
                            refine i_rswF c26 ?_
                            refine i_rs 1 (cf' := (270, [some (.ref 38), some (.int l1), some (.int l2), some (.int l3)], [.int (0 : Int32)], i_S X M)) rfl ?_
                            obtain rfl := Option.some.inj h
                            exact i_rret rfl rfl
def b_Bodies_from_b (rec_b_Bodies_from : Int32 → Int32 → Int32 → Int32 → I_M → Option (Int32 × I_M)) (l1 : Int32) (l2 : Int32) (l3 : Int32) (l4 : Int32) (M : I_M) : Option (Int32 × I_M) :=
  Option.bind (b_Bodies_bodyFrom l1 l2 M) (fun q1 => (if q1.1 = (0 : Int32) then
      some ((0 : Int32), q1.2)
    else
      (if l4 < (40 : Int32) then
        Option.bind (b_Bodies_begin q1.1 q1.2) (fun q4 => Option.bind (b_Bodies_runBody rec_b_Bodies_from q1.1 l3 (l4 + (1 : Int32)) q4) (fun q5 => some (q5.1, q5.2)))
      else
        some ((0 : Int32), q1.2))))
theorem ok_b_Bodies_from_b {X : Nat × (Nat → Int32)} {d : Nat} {rec_b_Bodies_from : Int32 → Int32 → Int32 → Int32 → I_M → Option (Int32 × I_M)} {l1 : Int32} {l2 : Int32} {l3 : Int32} {l4 : Int32} {M : I_M} {r : (Int32 × I_M)} {N : Nat} (hN : 6 ≤ N) (hr_b_Bodies_from : ∀ (d : Nat), N ≤ d → ∀ (a1 : Int32) (a2 : Int32) (a3 : Int32) (a4 : Int32) (M : I_M) (q : (Int32 × I_M)), rec_b_Bodies_from a1 a2 a3 a4 M = some q → I_Ex d 147 [.ref 38, .int a1, .int a2, .int a3, .int a4] (i_S X M) (some (.int q.1)) (i_S X q.2)) (hd : N + 3 ≤ d) (h : b_Bodies_from_b rec_b_Bodies_from l1 l2 l3 l4 M = some r) : I_Ex d 147 [.ref 38, .int l1, .int l2, .int l3, .int l4] (i_S X M) (some (.int r.1)) (i_S X r.2) := by
  obtain ⟨d, rfl⟩ : ∃ d1, d = d1 + 1 := ⟨d - 1, by omega⟩
  unfold b_Bodies_from_b at h
  refine i_ex (e := i_r147) (lv := [some (.ref 38), some (.int l1), some (.int l2), some (.int l3), some (.int l4), none]) rfl (Nat.le_of_ble_eq_true rfl) rfl ?_
  show I_RnE (I_Ex d) i_c147 (0, [some (.ref 38), some (.int l1), some (.int l2), some (.int l3), some (.int l4), none], [], i_S X M) _ _
  refine i_rs 2 (cf' := (2, [some (.ref 38), some (.int l1), some (.int l2), some (.int l3), some (.int l4), none], [.int l2, .int l1], i_S X M)) rfl ?_
  obtain ⟨q1, hq1, h⟩ := i_bdE h
  refine i_rcall (k := 148) (as := [.int l1, .int l2]) (cf1 := (5, [some (.ref 38), some (.int l1), some (.int l2), some (.int l3), some (.int l4), none], [], i_S X M)) (cf' := (5, [some (.ref 38), some (.int l1), some (.int l2), some (.int l3), some (.int l4), none], [.int q1.1], i_S X q1.2)) rfl (ok_b_Bodies_bodyFrom (by omega) hq1) rfl ?_
  refine i_rs 2 (cf' := (9, [some (.ref 38), some (.int l1), some (.int l2), some (.int l3), some (.int l4), some (.int q1.1)], [.int q1.1], i_S X q1.2)) rfl ?_
  by_cases c2 : q1.1 = (0 : Int32)
  · replace h := (if_pos c2).symm.trans h
    refine i_rbT (c := q1.1 = (0 : Int32)) (t := 19) (n := 12) rfl c2 ?_
    refine i_rs 1 (cf' := (20, [some (.ref 38), some (.int l1), some (.int l2), some (.int l3), some (.int l4), some (.int q1.1)], [.int (0 : Int32)], i_S X q1.2)) rfl ?_
    obtain rfl := Option.some.inj h
    exact i_rret rfl rfl
  · replace h := (if_neg c2).symm.trans h
    refine i_rbF (c := q1.1 = (0 : Int32)) (t := 19) (n := 12) rfl c2 ?_
    refine i_rs 2 (cf' := (16, [some (.ref 38), some (.int l1), some (.int l2), some (.int l3), some (.int l4), some (.int q1.1)], [.int (40 : Int32), .int l4], i_S X q1.2)) rfl ?_
    by_cases c3 : l4 < (40 : Int32)
    · replace h := (if_pos c3).symm.trans h
      refine i_rbT (c := l4 < (40 : Int32)) (t := 21) (n := 19) rfl c3 ?_
      refine i_rs 2 (cf' := (24, [some (.ref 38), some (.int l1), some (.int l2), some (.int l3), some (.int l4), some (.int q1.1)], [.int q1.1, .ref 38], i_S X q1.2)) rfl ?_
      obtain ⟨q4, hq4, h⟩ := i_bdE h
      refine i_rcall (k := 149) (as := [.ref 38, .int q1.1]) (cf1 := (27, [some (.ref 38), some (.int l1), some (.int l2), some (.int l3), some (.int l4), some (.int q1.1)], [], i_S X q1.2)) (cf' := (27, [some (.ref 38), some (.int l1), some (.int l2), some (.int l3), some (.int l4), some (.int q1.1)], [], i_S X q4)) rfl (ok_b_Bodies_begin (by omega) hq4) rfl ?_
      refine i_rs 6 (cf' := (35, [some (.ref 38), some (.int l1), some (.int l2), some (.int l3), some (.int l4), some (.int q1.1)], [.int (l4 + (1 : Int32)), .int l3, .int q1.1, .ref 38], i_S X q4)) rfl ?_
      obtain ⟨q5, hq5, h⟩ := i_bdE h
      refine i_rcall (k := 150) (as := [.ref 38, .int q1.1, .int l3, .int (l4 + (1 : Int32))]) (cf1 := (38, [some (.ref 38), some (.int l1), some (.int l2), some (.int l3), some (.int l4), some (.int q1.1)], [], i_S X q4)) (cf' := (38, [some (.ref 38), some (.int l1), some (.int l2), some (.int l3), some (.int l4), some (.int q1.1)], [.int q5.1], i_S X q5.2)) rfl (ok_b_Bodies_runBody hN hr_b_Bodies_from (by omega) hq5) rfl ?_
      obtain rfl := Option.some.inj h
      exact i_rret rfl rfl
    · replace h := (if_neg c3).symm.trans h
      refine i_rbF (c := l4 < (40 : Int32)) (t := 21) (n := 19) rfl c3 ?_
      refine i_rs 1 (cf' := (20, [some (.ref 38), some (.int l1), some (.int l2), some (.int l3), some (.int l4), some (.int q1.1)], [.int (0 : Int32)], i_S X q1.2)) rfl ?_
      obtain rfl := Option.some.inj h
      exact i_rret rfl rfl
def b_Bodies_from : Nat → Int32 → Int32 → Int32 → Int32 → I_M → Option (Int32 × I_M)
  | 0, _, _, _, _, _ => none
  | n + 1, a1, a2, a3, a4, M => b_Bodies_from_b (b_Bodies_from n) a1 a2 a3 a4 M
theorem ok_b_Bodies_from {X : Nat × (Nat → Int32)} : ∀ (n : Nat), ∀ (d : Nat), 3 * n + 6 ≤ d → ∀ (a1 : Int32) (a2 : Int32) (a3 : Int32) (a4 : Int32) (M : I_M) (q : (Int32 × I_M)), b_Bodies_from n a1 a2 a3 a4 M = some q → I_Ex d 147 [.ref 38, .int a1, .int a2, .int a3, .int a4] (i_S X M) (some (.int q.1)) (i_S X q.2) := by
  intro n
  induction n with
  | zero => intro d _ _ _ _ _ M q h; cases h
  | succ n ih =>
    intro d hd a1 a2 a3 a4 M q h
    rw [b_Bodies_from] at h
    exact ok_b_Bodies_from_b (N := 3 * n + 6) (by omega) ih (by omega) h
def b_Bodies_perform (l1 : Int32) (l2 : Int32) (l3 : Int32) (M : I_M) : Option (Int32 × I_M) :=
  Option.bind (b_Bodies_has l1 (i_wI M 38 3 (0 : Int32))) (fun q1 => (if q1.1 = (0 : Int32) then
      some ((0 : Int32), q1.2)
    else
      (if l2 < (0 : Int32) then
        some ((0 : Int32), q1.2)
      else
        (if l2 < (4 : Int32) then
          Option.bind (b_Bodies_own (b_Bodies_from 20) l2 l3 (0 : Int32) (i_wI q1.2 38 4 l1)) (fun q5 => some (q5.1, q5.2))
        else
          some ((0 : Int32), q1.2)))))
theorem ok_b_Bodies_perform {X : Nat × (Nat → Int32)} {d : Nat} {l1 : Int32} {l2 : Int32} {l3 : Int32} {M : I_M} {r : (Int32 × I_M)} (hd : 68 ≤ d) (h : b_Bodies_perform l1 l2 l3 M = some r) : I_Ex d 144 [.ref 38, .int l1, .int l2, .int l3] (i_S X M) (some (.int r.1)) (i_S X r.2) := by
  obtain ⟨d, rfl⟩ : ∃ d1, d = d1 + 1 := ⟨d - 1, by omega⟩
  unfold b_Bodies_perform at h
  refine i_ex (e := i_r144) (lv := [some (.ref 38), some (.int l1), some (.int l2), some (.int l3)]) rfl (Nat.le_of_ble_eq_true rfl) rfl ?_
  show I_RnE (I_Ex d) i_c144 (0, [some (.ref 38), some (.int l1), some (.int l2), some (.int l3)], [], i_S X M) _ _
  refine i_rs 5 (cf' := (7, [some (.ref 38), some (.int l1), some (.int l2), some (.int l3)], [.int l1, .ref 38], i_S X (i_wI M 38 3 (0 : Int32)))) rfl ?_
  obtain ⟨q1, hq1, h⟩ := i_bdE h
  refine i_rcall (k := 145) (as := [.ref 38, .int l1]) (cf1 := (10, [some (.ref 38), some (.int l1), some (.int l2), some (.int l3)], [], i_S X (i_wI M 38 3 (0 : Int32)))) (cf' := (10, [some (.ref 38), some (.int l1), some (.int l2), some (.int l3)], [.int q1.1], i_S X q1.2)) rfl (ok_b_Bodies_has (by omega) hq1) rfl ?_
  by_cases c2 : q1.1 = (0 : Int32)
  · replace h := (if_pos c2).symm.trans h
    refine i_rbT (c := q1.1 = (0 : Int32)) (t := 22) (n := 13) rfl c2 ?_
    refine i_rs 1 (cf' := (23, [some (.ref 38), some (.int l1), some (.int l2), some (.int l3)], [.int (0 : Int32)], i_S X q1.2)) rfl ?_
    obtain rfl := Option.some.inj h
    exact i_rret rfl rfl
  · replace h := (if_neg c2).symm.trans h
    refine i_rbF (c := q1.1 = (0 : Int32)) (t := 22) (n := 13) rfl c2 ?_
    refine i_rs 1 (cf' := (14, [some (.ref 38), some (.int l1), some (.int l2), some (.int l3)], [.int l2], i_S X q1.2)) rfl ?_
    by_cases c3 : l2 < (0 : Int32)
    · replace h := (if_pos c3).symm.trans h
      refine i_rbT (c := l2 < (0 : Int32)) (t := 22) (n := 17) rfl c3 ?_
      refine i_rs 1 (cf' := (23, [some (.ref 38), some (.int l1), some (.int l2), some (.int l3)], [.int (0 : Int32)], i_S X q1.2)) rfl ?_
      obtain rfl := Option.some.inj h
      exact i_rret rfl rfl
    · replace h := (if_neg c3).symm.trans h
      refine i_rbF (c := l2 < (0 : Int32)) (t := 22) (n := 17) rfl c3 ?_
      refine i_rs 2 (cf' := (19, [some (.ref 38), some (.int l1), some (.int l2), some (.int l3)], [.int (4 : Int32), .int l2], i_S X q1.2)) rfl ?_
      by_cases c4 : l2 < (4 : Int32)
      · replace h := (if_pos c4).symm.trans h
        refine i_rbT (c := l2 < (4 : Int32)) (t := 24) (n := 22) rfl c4 ?_
        refine i_rs 7 (cf' := (33, [some (.ref 38), some (.int l1), some (.int l2), some (.int l3)], [.int (0 : Int32), .int l3, .int l2, .ref 38], i_S X (i_wI q1.2 38 4 l1))) rfl ?_
        obtain ⟨q5, hq5, h⟩ := i_bdE h
        refine i_rcall (k := 146) (as := [.ref 38, .int l2, .int l3, .int (0 : Int32)]) (cf1 := (36, [some (.ref 38), some (.int l1), some (.int l2), some (.int l3)], [], i_S X (i_wI q1.2 38 4 l1))) (cf' := (36, [some (.ref 38), some (.int l1), some (.int l2), some (.int l3)], [.int q5.1], i_S X q5.2)) rfl (ok_b_Bodies_own (N := 66) (by omega) (fun d hd => ok_b_Bodies_from 20 d (by omega)) (by omega) hq5) rfl ?_
        obtain rfl := Option.some.inj h
        exact i_rret rfl rfl
      · replace h := (if_neg c4).symm.trans h
        refine i_rbF (c := l2 < (4 : Int32)) (t := 24) (n := 22) rfl c4 ?_
        refine i_rs 1 (cf' := (23, [some (.ref 38), some (.int l1), some (.int l2), some (.int l3)], [.int (0 : Int32)], i_S X q1.2)) rfl ?_
        obtain rfl := Option.some.inj h
        exact i_rret rfl rfl
def b_act (l1 : Int32) (l2 : Int32) (l3 : Int32) (M : I_M) : Option (Int32 × I_M) :=
  Option.bind (b_Bodies_perform l1 l2 l3 M) (fun q1 => some (q1.1, q1.2))
theorem ok_b_act {X : Nat × (Nat → Int32)} {d : Nat} {l1 : Int32} {l2 : Int32} {l3 : Int32} {M : I_M} {r : (Int32 × I_M)} (hd : 69 ≤ d) (h : b_act l1 l2 l3 M = some r) : I_Ex d 143 [.ref 0, .int l1, .int l2, .int l3] (i_S X M) (some (.int r.1)) (i_S X r.2) := by
  obtain ⟨d, rfl⟩ : ∃ d1, d = d1 + 1 := ⟨d - 1, by omega⟩
  unfold b_act at h
  refine i_ex (e := i_r143) (lv := [some (.ref 0), some (.int l1), some (.int l2), some (.int l3)]) rfl (Nat.le_of_ble_eq_true rfl) rfl ?_
  show I_RnE (I_Ex d) i_c143 (0, [some (.ref 0), some (.int l1), some (.int l2), some (.int l3)], [], i_S X M) _ _
  refine i_rs 5 (cf' := (7, [some (.ref 0), some (.int l1), some (.int l2), some (.int l3)], [.int l3, .int l2, .int l1, .ref 38], i_S X M)) rfl ?_
  obtain ⟨q1, hq1, h⟩ := i_bdE h
  refine i_rcall (k := 144) (as := [.ref 38, .int l1, .int l2, .int l3]) (cf1 := (10, [some (.ref 0), some (.int l1), some (.int l2), some (.int l3)], [], i_S X M)) (cf' := (10, [some (.ref 0), some (.int l1), some (.int l2), some (.int l3)], [.int q1.1], i_S X q1.2)) rfl (ok_b_Bodies_perform (by omega) hq1) rfl ?_
  obtain rfl := Option.some.inj h
  exact i_rret rfl rfl
def r_isBody (l1 : Int32) (M : I_M) : Option (Int32 × I_M) :=
  Option.bind (r_within (Int32.toInt64 l1) (0 : Int64) (Int32.toInt64 ((M.1 50 46) - (1 : Int32))) M) (fun q1 => i_zo q1.1 (some (q1.1, q1.2)))
theorem ok_r_isBody {X : Nat × (Nat → Int32)} {d : Nat} {l1 : Int32} {M : I_M} {r : (Int32 × I_M)} (hd : 2 ≤ d) (h : r_isBody l1 M = some r) : I_Ex d 248 [.ref 50, .int l1] (i_S X M) (some (.int r.1)) (i_S X r.2) := by
  obtain ⟨d, rfl⟩ : ∃ d1, d = d1 + 1 := ⟨d - 1, by omega⟩
  unfold r_isBody at h
  refine i_ex (e := i_r248) (lv := [some (.ref 50), some (.int l1)]) rfl (Nat.le_of_ble_eq_true rfl) rfl ?_
  show I_RnE (I_Ex d) i_c248 (0, [some (.ref 50), some (.int l1)], [], i_S X M) _ _
  refine i_rs 8 (cf' := (10, [some (.ref 50), some (.int l1)], [.long (Int32.toInt64 ((M.1 50 46) - (1 : Int32))), .long (0 : Int64), .long (Int32.toInt64 l1)], i_S X M)) rfl ?_
  obtain ⟨q1, hq1, h⟩ := i_bdE h
  refine i_rcall (k := 175) (as := [.long (Int32.toInt64 l1), .long (0 : Int64), .long (Int32.toInt64 ((M.1 50 46) - (1 : Int32)))]) (cf1 := (13, [some (.ref 50), some (.int l1)], [], i_S X M)) (cf' := (13, [some (.ref 50), some (.int l1)], [.int q1.1], i_S X q1.2)) rfl (ok_r_within (by omega) hq1) rfl ?_
  obtain ⟨z2, h⟩ := i_zoE h
  obtain rfl := Option.some.inj h
  exact i_rretZ rfl z2 rfl
def r_begins (l1 : Int32) (M : I_M) : Option I_M :=
  (if (M.1 50 49) < (24 : Int32) then
      i_g (M.1 50 49) 24 (some (i_wI (i_wI M 69 (Int32.toNatClampNeg (M.1 50 49)) l1) 50 49 ((M.1 50 49) + (1 : Int32))))
    else
      some (i_wI M 50 49 ((M.1 50 49) + (1 : Int32))))
theorem ok_r_begins {X : Nat × (Nat → Int32)} {d : Nat} {l1 : Int32} {M : I_M} {r : I_M} (hd : 1 ≤ d) (h : r_begins l1 M = some r) : I_Ex d 250 [.ref 50, .int l1] (i_S X M) none (i_S X r) := by
  obtain ⟨d, rfl⟩ : ∃ d1, d = d1 + 1 := ⟨d - 1, by omega⟩
  unfold r_begins at h
  refine i_ex (e := i_r250) (lv := [some (.ref 50), some (.int l1)]) rfl (Nat.le_of_ble_eq_true rfl) rfl ?_
  show I_RnE (I_Ex d) i_c250 (0, [some (.ref 50), some (.int l1)], [], i_S X M) _ _
  refine i_rs 3 (cf' := (6, [some (.ref 50), some (.int l1)], [.int (24 : Int32), .int (M.1 50 49)], i_S X M)) rfl ?_
  by_cases c1 : (M.1 50 49) < (24 : Int32)
  · replace h := (if_pos c1).symm.trans h
    refine i_rbT (c := (M.1 50 49) < (24 : Int32)) (t := 9) (n := 19) rfl c1 ?_
    refine i_rs 5 (cf' := (18, [some (.ref 50), some (.int l1)], [.int l1, .int (M.1 50 49), .ref 69], i_S X M)) rfl ?_
    obtain ⟨g2, h⟩ := i_gE h
    refine i_riast (n := 24) (cf' := (19, [some (.ref 50), some (.int l1)], [], i_S X (i_wI M 69 (Int32.toNatClampNeg (M.1 50 49)) l1))) rfl rfl (Or.inl rfl) g2 rfl ?_
    refine i_rs 6 (cf' := (29, [some (.ref 50), some (.int l1)], [], i_S X (i_wI (i_wI M 69 (Int32.toNatClampNeg (M.1 50 49)) l1) 50 49 ((M.1 50 49) + (1 : Int32))))) rfl ?_
    obtain rfl := Option.some.inj h
    exact i_rret rfl rfl
  · replace h := (if_neg c1).symm.trans h
    refine i_rbF (c := (M.1 50 49) < (24 : Int32)) (t := 9) (n := 19) rfl c1 ?_
    refine i_rs 6 (cf' := (29, [some (.ref 50), some (.int l1)], [], i_S X (i_wI M 50 49 ((M.1 50 49) + (1 : Int32))))) rfl ?_
    obtain rfl := Option.some.inj h
    exact i_rret rfl rfl
def r_humsAs_b_B16 (rec_r_humsAs : Int32 → Int32 → I_M → Option (Int32 × I_M)) (l2 : Int32) (M : I_M) : Option (Int32 × I_M) :=
  Option.bind (r_begins (20 : Int32) M) (fun q1 => Option.bind (rec_r_humsAs (0 : Int32) l2 q1) (fun q2 => some ((q2.1 + (3 : Int32)), q2.2)))
theorem ok_r_humsAs_b_B16 {X : Nat × (Nat → Int32)} {d : Nat} {rec_r_humsAs : Int32 → Int32 → I_M → Option (Int32 × I_M)} {l2 : Int32} {M : I_M} {r : (Int32 × I_M)} {N : Nat} (hN : 6 ≤ N) (hr_r_humsAs : ∀ (d : Nat), N ≤ d → ∀ (a1 : Int32) (a2 : Int32) (M : I_M) (q : (Int32 × I_M)), rec_r_humsAs a1 a2 M = some q → I_Ex d 249 [.ref 50, .int a1, .int a2] (i_S X M) (some (.int q.1)) (i_S X q.2)) (hd : N + 1 ≤ d + 1) (h : r_humsAs_b_B16 rec_r_humsAs l2 M = some r) : I_RnE (I_Ex d) i_c249 (16, [some (.ref 50), none, some (.int l2)], [], i_S X M) (some (.int r.1)) (i_S X r.2) := by
  unfold r_humsAs_b_B16 at h
  refine i_rs 2 (cf' := (19, [some (.ref 50), none, some (.int l2)], [.int (20 : Int32), .ref 50], i_S X M)) rfl ?_
  obtain ⟨q1, hq1, h⟩ := i_bdE h
  refine i_rcall (k := 250) (as := [.ref 50, .int (20 : Int32)]) (cf1 := (22, [some (.ref 50), none, some (.int l2)], [], i_S X M)) (cf' := (22, [some (.ref 50), none, some (.int l2)], [], i_S X q1)) rfl (ok_r_begins (by omega) hq1) rfl ?_
  refine i_rs 3 (cf' := (25, [some (.ref 50), none, some (.int l2)], [.int l2, .int (0 : Int32), .ref 50], i_S X q1)) rfl ?_
  obtain ⟨q2, hq2, h⟩ := i_bdE h
  refine i_rcall (k := 249) (as := [.ref 50, .int (0 : Int32), .int l2]) (cf1 := (28, [some (.ref 50), none, some (.int l2)], [], i_S X q1)) (cf' := (28, [some (.ref 50), none, some (.int l2)], [.int q2.1], i_S X q2.2)) rfl (hr_r_humsAs _ (by omega) _ _ _ _ hq2) rfl ?_
  refine i_rs 2 (cf' := (30, [some (.ref 50), none, some (.int l2)], [.int (q2.1 + (3 : Int32))], i_S X q2.2)) rfl ?_
  obtain rfl := Option.some.inj h
  exact i_rret rfl rfl
def r_humsAs_b (rec_r_humsAs : Int32 → Int32 → I_M → Option (Int32 × I_M)) (l1 : Int32) (l2 : Int32) (M : I_M) : Option (Int32 × I_M) :=
  (if l1 = (1 : Int32) then
      r_humsAs_b_B16 rec_r_humsAs l2 M
    else
      (if l1 = (4 : Int32) then
        r_humsAs_b_B16 rec_r_humsAs l2 M
      else
        (if l1 = (7 : Int32) then
          r_humsAs_b_B16 rec_r_humsAs l2 M
        else
          (if l1 = (6 : Int32) then
            Option.bind (r_begins (70 : Int32) M) (fun q7 => Option.bind (rec_r_humsAs (0 : Int32) l2 q7) (fun q8 => some ((q8.1 * (2 : Int32)), q8.2)))
          else
            Option.bind (r_begins (1 : Int32) M) (fun q9 => some ((l2 + (q9.1 50 51)), q9))))))
theorem ok_r_humsAs_b {X : Nat × (Nat → Int32)} {d : Nat} {rec_r_humsAs : Int32 → Int32 → I_M → Option (Int32 × I_M)} {l1 : Int32} {l2 : Int32} {M : I_M} {r : (Int32 × I_M)} {N : Nat} (hN : 6 ≤ N) (hr_r_humsAs : ∀ (d : Nat), N ≤ d → ∀ (a1 : Int32) (a2 : Int32) (M : I_M) (q : (Int32 × I_M)), rec_r_humsAs a1 a2 M = some q → I_Ex d 249 [.ref 50, .int a1, .int a2] (i_S X M) (some (.int q.1)) (i_S X q.2)) (hd : N + 1 ≤ d) (h : r_humsAs_b rec_r_humsAs l1 l2 M = some r) : I_Ex d 249 [.ref 50, .int l1, .int l2] (i_S X M) (some (.int r.1)) (i_S X r.2) := by
  obtain ⟨d, rfl⟩ : ∃ d1, d = d1 + 1 := ⟨d - 1, by omega⟩
  unfold r_humsAs_b at h
  refine i_ex (e := i_r249) (lv := [some (.ref 50), some (.int l1), some (.int l2)]) rfl (Nat.le_of_ble_eq_true rfl) rfl ?_
  show I_RnE (I_Ex d) i_c249 (0, [some (.ref 50), some (.int l1), some (.int l2)], [], i_S X M) _ _
  refine i_rs 2 (cf' := (2, [some (.ref 50), some (.int l1), some (.int l2)], [.int (1 : Int32), .int l1], i_S X M)) rfl ?_
  by_cases c3 : l1 = (1 : Int32)
  · replace h := (if_pos c3).symm.trans h
    refine i_rbT (c := l1 = (1 : Int32)) (t := 16) (n := 5) rfl c3 ?_
    refine i_fg (lv' := [some (.ref 50), none, some (.int l2)]) (And.intro rfl (And.intro rfl True.intro)) ?_
    exact ok_r_humsAs_b_B16 hN hr_r_humsAs (by omega) h
  · replace h := (if_neg c3).symm.trans h
    refine i_rbF (c := l1 = (1 : Int32)) (t := 16) (n := 5) rfl c3 ?_
    refine i_rs 2 (cf' := (7, [some (.ref 50), some (.int l1), some (.int l2)], [.int (4 : Int32), .int l1], i_S X M)) rfl ?_
    by_cases c4 : l1 = (4 : Int32)
    · replace h := (if_pos c4).symm.trans h
      refine i_rbT (c := l1 = (4 : Int32)) (t := 16) (n := 10) rfl c4 ?_
      refine i_fg (lv' := [some (.ref 50), none, some (.int l2)]) (And.intro rfl (And.intro rfl True.intro)) ?_
      exact ok_r_humsAs_b_B16 hN hr_r_humsAs (by omega) h
    · replace h := (if_neg c4).symm.trans h
      refine i_rbF (c := l1 = (4 : Int32)) (t := 16) (n := 10) rfl c4 ?_
      refine i_rs 2 (cf' := (13, [some (.ref 50), some (.int l1), some (.int l2)], [.int (7 : Int32), .int l1], i_S X M)) rfl ?_
      by_cases c5 : l1 = (7 : Int32)
      · replace h := (if_pos c5).symm.trans h
        refine i_rbT (c := l1 = (7 : Int32)) (t := 16) (n := 31) rfl c5 ?_
        refine i_fg (lv' := [some (.ref 50), none, some (.int l2)]) (And.intro rfl (And.intro rfl True.intro)) ?_
        exact ok_r_humsAs_b_B16 hN hr_r_humsAs (by omega) h
      · replace h := (if_neg c5).symm.trans h
        refine i_rbF (c := l1 = (7 : Int32)) (t := 16) (n := 31) rfl c5 ?_
        refine i_rs 2 (cf' := (34, [some (.ref 50), some (.int l1), some (.int l2)], [.int (6 : Int32), .int l1], i_S X M)) rfl ?_
        by_cases c6 : l1 = (6 : Int32)
        · replace h := (if_pos c6).symm.trans h
          refine i_rbT (c := l1 = (6 : Int32)) (t := 37) (n := 52) rfl c6 ?_
          refine i_rs 2 (cf' := (40, [some (.ref 50), some (.int l1), some (.int l2)], [.int (70 : Int32), .ref 50], i_S X M)) rfl ?_
          obtain ⟨q7, hq7, h⟩ := i_bdE h
          refine i_rcall (k := 250) (as := [.ref 50, .int (70 : Int32)]) (cf1 := (43, [some (.ref 50), some (.int l1), some (.int l2)], [], i_S X M)) (cf' := (43, [some (.ref 50), some (.int l1), some (.int l2)], [], i_S X q7)) rfl (ok_r_begins (by omega) hq7) rfl ?_
          refine i_rs 3 (cf' := (46, [some (.ref 50), some (.int l1), some (.int l2)], [.int l2, .int (0 : Int32), .ref 50], i_S X q7)) rfl ?_
          obtain ⟨q8, hq8, h⟩ := i_bdE h
          refine i_rcall (k := 249) (as := [.ref 50, .int (0 : Int32), .int l2]) (cf1 := (49, [some (.ref 50), some (.int l1), some (.int l2)], [], i_S X q7)) (cf' := (49, [some (.ref 50), some (.int l1), some (.int l2)], [.int q8.1], i_S X q8.2)) rfl (hr_r_humsAs _ (by omega) _ _ _ _ hq8) rfl ?_
          refine i_rs 2 (cf' := (51, [some (.ref 50), some (.int l1), some (.int l2)], [.int (q8.1 * (2 : Int32))], i_S X q8.2)) rfl ?_
          obtain rfl := Option.some.inj h
          exact i_rret rfl rfl
        · replace h := (if_neg c6).symm.trans h
          refine i_rbF (c := l1 = (6 : Int32)) (t := 37) (n := 52) rfl c6 ?_
          refine i_rs 2 (cf' := (54, [some (.ref 50), some (.int l1), some (.int l2)], [.int (1 : Int32), .ref 50], i_S X M)) rfl ?_
          obtain ⟨q9, hq9, h⟩ := i_bdE h
          refine i_rcall (k := 250) (as := [.ref 50, .int (1 : Int32)]) (cf1 := (57, [some (.ref 50), some (.int l1), some (.int l2)], [], i_S X M)) (cf' := (57, [some (.ref 50), some (.int l1), some (.int l2)], [], i_S X q9)) rfl (ok_r_begins (by omega) hq9) rfl ?_
          refine i_rs 4 (cf' := (63, [some (.ref 50), some (.int l1), some (.int l2)], [.int (l2 + (q9.1 50 51))], i_S X q9)) rfl ?_
          obtain rfl := Option.some.inj h
          exact i_rret rfl rfl
def r_humsAs : Nat → Int32 → Int32 → I_M → Option (Int32 × I_M)
  | 0, _, _, _ => none
  | n + 1, a1, a2, M => r_humsAs_b (r_humsAs n) a1 a2 M
theorem ok_r_humsAs {X : Nat × (Nat → Int32)} : ∀ (n : Nat), ∀ (d : Nat), 1 * n + 6 ≤ d → ∀ (a1 : Int32) (a2 : Int32) (M : I_M) (q : (Int32 × I_M)), r_humsAs n a1 a2 M = some q → I_Ex d 249 [.ref 50, .int a1, .int a2] (i_S X M) (some (.int q.1)) (i_S X q.2) := by
  intro n
  induction n with
  | zero => intro d _ _ _ M q h; cases h
  | succ n ih =>
    intro d hd a1 a2 M q h
    rw [r_humsAs] at h
    exact ok_r_humsAs_b (N := 1 * n + 6) (by omega) ih (by omega) h
