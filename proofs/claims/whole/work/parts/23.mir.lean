/-! ===== part 23: mirrors and what they say (written by wip/whole/mir.py) ===== -/
def b_Search_bestCell_L4 : Nat → Int32 → Int32 → I_M → Option (Int32 × I_M)
  | 0, _, _, _ => none
  | n + 1, l1, l2, M =>
    Option.bind (b_Land_cells M) (fun q1 => (if l2 < q1.1 then
        i_g l2 25 (i_g l1 25 ((if ((q1.2.1 24 (Int32.toNatClampNeg l1)) * ((q1.2.1 5 (Int32.toNatClampNeg l2)) + (1 : Int32))) < ((q1.2.1 24 (Int32.toNatClampNeg l2)) * ((q1.2.1 5 (Int32.toNatClampNeg l1)) + (1 : Int32))) then
          (b_Search_bestCell_L4 n) l2 (l2 + (1 : Int32)) q1.2
        else
          (b_Search_bestCell_L4 n) l1 (l2 + (1 : Int32)) q1.2)))
      else
        some (l1, q1.2)))
theorem ok_b_Search_bestCell_L4 {X : Nat × (Nat → Int32)} {d : Nat} (hd : 2 ≤ d + 1) : ∀ (n : Nat) (l1 : Int32) (l2 : Int32) (M : I_M) (r : (Int32 × I_M)), b_Search_bestCell_L4 n l1 l2 M = some r → I_RnE (I_Ex d) i_c95 (4, [some (.ref 22), some (.int l1), some (.int l2)], [], i_S X M) (some (.int r.1)) (i_S X r.2) := by
  intro n
  induction n with
  | zero => intro _ _ M r h; cases h
  | succ n hself =>
    intro l1 l2 M r h
    rw [b_Search_bestCell_L4] at h
    refine i_rs 3 (cf' := (9, [some (.ref 22), some (.int l1), some (.int l2)], [.ref 1, .int l2], i_S X M)) rfl ?_
    obtain ⟨q1, hq1, h⟩ := i_bdE h
    refine i_rcall (k := 21) (as := [.ref 1]) (cf1 := (12, [some (.ref 22), some (.int l1), some (.int l2)], [.int l2], i_S X M)) (cf' := (12, [some (.ref 22), some (.int l1), some (.int l2)], [.int q1.1, .int l2], i_S X q1.2)) rfl (ok_b_Land_cells (by omega) hq1) rfl ?_
    by_cases c2 : l2 < q1.1
    · replace h := (if_pos c2).symm.trans h
      refine i_rbT (c := l2 < q1.1) (t := 15) (n := 62) rfl c2 ?_
      refine i_rs 3 (cf' := (20, [some (.ref 22), some (.int l1), some (.int l2)], [.int l2, .ref 24], i_S X q1.2)) rfl ?_
      obtain ⟨g3, h⟩ := i_gE h
      refine i_riald (n := 25) (cf' := (21, [some (.ref 22), some (.int l1), some (.int l2)], [.int (q1.2.1 24 (Int32.toNatClampNeg l2))], i_S X q1.2)) rfl rfl (by decide) g3 rfl ?_
      refine i_rs 4 (cf' := (29, [some (.ref 22), some (.int l1), some (.int l2)], [.int l1, .ref 5, .int (q1.2.1 24 (Int32.toNatClampNeg l2))], i_S X q1.2)) rfl ?_
      obtain ⟨g4, h⟩ := i_gE h
      refine i_riald (n := 25) (cf' := (30, [some (.ref 22), some (.int l1), some (.int l2)], [.int (q1.2.1 5 (Int32.toNatClampNeg l1)), .int (q1.2.1 24 (Int32.toNatClampNeg l2))], i_S X q1.2)) rfl rfl (by decide) g4 rfl ?_
      refine i_rs 6 (cf' := (38, [some (.ref 22), some (.int l1), some (.int l2)], [.int l1, .ref 24, .int ((q1.2.1 24 (Int32.toNatClampNeg l2)) * ((q1.2.1 5 (Int32.toNatClampNeg l1)) + (1 : Int32)))], i_S X q1.2)) rfl ?_
      refine i_riald (n := 25) (cf' := (39, [some (.ref 22), some (.int l1), some (.int l2)], [.int (q1.2.1 24 (Int32.toNatClampNeg l1)), .int ((q1.2.1 24 (Int32.toNatClampNeg l2)) * ((q1.2.1 5 (Int32.toNatClampNeg l1)) + (1 : Int32)))], i_S X q1.2)) rfl rfl (by decide) g4 rfl ?_
      refine i_rs 4 (cf' := (47, [some (.ref 22), some (.int l1), some (.int l2)], [.int l2, .ref 5, .int (q1.2.1 24 (Int32.toNatClampNeg l1)), .int ((q1.2.1 24 (Int32.toNatClampNeg l2)) * ((q1.2.1 5 (Int32.toNatClampNeg l1)) + (1 : Int32)))], i_S X q1.2)) rfl ?_
      refine i_riald (n := 25) (cf' := (48, [some (.ref 22), some (.int l1), some (.int l2)], [.int (q1.2.1 5 (Int32.toNatClampNeg l2)), .int (q1.2.1 24 (Int32.toNatClampNeg l1)), .int ((q1.2.1 24 (Int32.toNatClampNeg l2)) * ((q1.2.1 5 (Int32.toNatClampNeg l1)) + (1 : Int32)))], i_S X q1.2)) rfl rfl (by decide) g3 rfl ?_
      refine i_rs 3 (cf' := (51, [some (.ref 22), some (.int l1), some (.int l2)], [.int ((q1.2.1 24 (Int32.toNatClampNeg l1)) * ((q1.2.1 5 (Int32.toNatClampNeg l2)) + (1 : Int32))), .int ((q1.2.1 24 (Int32.toNatClampNeg l2)) * ((q1.2.1 5 (Int32.toNatClampNeg l1)) + (1 : Int32)))], i_S X q1.2)) rfl ?_
      by_cases c5 : ((q1.2.1 24 (Int32.toNatClampNeg l1)) * ((q1.2.1 5 (Int32.toNatClampNeg l2)) + (1 : Int32))) < ((q1.2.1 24 (Int32.toNatClampNeg l2)) * ((q1.2.1 5 (Int32.toNatClampNeg l1)) + (1 : Int32)))
      · replace h := (if_pos c5).symm.trans h
        refine i_rbT (c := ((q1.2.1 24 (Int32.toNatClampNeg l1)) * ((q1.2.1 5 (Int32.toNatClampNeg l2)) + (1 : Int32))) < ((q1.2.1 24 (Int32.toNatClampNeg l2)) * ((q1.2.1 5 (Int32.toNatClampNeg l1)) + (1 : Int32)))) (t := 54) (n := 56) rfl c5 ?_
        refine i_rs 4 (cf' := (4, [some (.ref 22), some (.int l2), some (.int (l2 + (1 : Int32)))], [], i_S X q1.2)) rfl ?_
        refine i_fg (lv' := [some (.ref 22), some (.int l2), some (.int (l2 + (1 : Int32)))]) (And.intro rfl (And.intro rfl (And.intro rfl True.intro))) ?_
        exact hself l2 (l2 + (1 : Int32)) q1.2 _ h
      · replace h := (if_neg c5).symm.trans h
        refine i_rbF (c := ((q1.2.1 24 (Int32.toNatClampNeg l1)) * ((q1.2.1 5 (Int32.toNatClampNeg l2)) + (1 : Int32))) < ((q1.2.1 24 (Int32.toNatClampNeg l2)) * ((q1.2.1 5 (Int32.toNatClampNeg l1)) + (1 : Int32)))) (t := 54) (n := 56) rfl c5 ?_
        refine i_rs 2 (cf' := (4, [some (.ref 22), some (.int l1), some (.int (l2 + (1 : Int32)))], [], i_S X q1.2)) rfl ?_
        refine i_fg (lv' := [some (.ref 22), some (.int l1), some (.int (l2 + (1 : Int32)))]) (And.intro rfl (And.intro rfl (And.intro rfl True.intro))) ?_
        exact hself l1 (l2 + (1 : Int32)) q1.2 _ h
    · replace h := (if_neg c2).symm.trans h
      refine i_rbF (c := l2 < q1.1) (t := 15) (n := 62) rfl c2 ?_
      refine i_rs 1 (cf' := (63, [some (.ref 22), some (.int l1), some (.int l2)], [.int l1], i_S X q1.2)) rfl ?_
      obtain rfl := Option.some.inj h
      exact i_rret rfl rfl
def b_Search_bestCell (M : I_M) : Option (Int32 × I_M) :=
  b_Search_bestCell_L4 i_F (0 : Int32) (1 : Int32) M
theorem ok_b_Search_bestCell {X : Nat × (Nat → Int32)} {d : Nat} {M : I_M} {r : (Int32 × I_M)} (hd : 2 ≤ d) (h : b_Search_bestCell M = some r) : I_Ex d 95 [.ref 22] (i_S X M) (some (.int r.1)) (i_S X r.2) := by
  obtain ⟨d, rfl⟩ : ∃ d1, d = d1 + 1 := ⟨d - 1, by omega⟩
  unfold b_Search_bestCell at h
  refine i_ex (e := i_r95) (lv := [some (.ref 22), none, none]) rfl (Nat.le_of_ble_eq_true rfl) rfl ?_
  show I_RnE (I_Ex d) i_c95 (0, [some (.ref 22), none, none], [], i_S X M) _ _
  refine i_rs 4 (cf' := (4, [some (.ref 22), some (.int (0 : Int32)), some (.int (1 : Int32))], [], i_S X M)) rfl ?_
  refine i_fg (lv' := [some (.ref 22), some (.int (0 : Int32)), some (.int (1 : Int32))]) (And.intro rfl (And.intro rfl (And.intro rfl True.intro))) ?_
  refine ok_b_Search_bestCell_L4 (by omega) i_F (0 : Int32) (1 : Int32) M _ h
def b_dig (l1 : Int32) (M : I_M) : Option (Int32 × I_M) :=
  Option.bind (b_isSize l1 M) (fun q1 => (if q1.1 = (0 : Int32) then
      some ((-1 : Int32), q1.2)
    else
      Option.bind (b_Search_goThrough l1 (-1 : Int32) q1.2) (fun q3 => (if (q3.1 22 5) = (0 : Int32) then
        some ((-2 : Int32), q3)
      else
        Option.bind (b_Search_bestCell q3) (fun q5 => some (q5.1, q5.2))))))
theorem ok_b_dig {X : Nat × (Nat → Int32)} {d : Nat} {l1 : Int32} {M : I_M} {r : (Int32 × I_M)} (hd : 7 ≤ d) (h : b_dig l1 M = some r) : I_Ex d 94 [.ref 0, .int l1] (i_S X M) (some (.int r.1)) (i_S X r.2) := by
  obtain ⟨d, rfl⟩ : ∃ d1, d = d1 + 1 := ⟨d - 1, by omega⟩
  unfold b_dig at h
  refine i_ex (e := i_r94) (lv := [some (.ref 0), some (.int l1)]) rfl (Nat.le_of_ble_eq_true rfl) rfl ?_
  show I_RnE (I_Ex d) i_c94 (0, [some (.ref 0), some (.int l1)], [], i_S X M) _ _
  refine i_rs 1 (cf' := (1, [some (.ref 0), some (.int l1)], [.int l1], i_S X M)) rfl ?_
  obtain ⟨q1, hq1, h⟩ := i_bdE h
  refine i_rcall (k := 81) (as := [.int l1]) (cf1 := (4, [some (.ref 0), some (.int l1)], [], i_S X M)) (cf' := (4, [some (.ref 0), some (.int l1)], [.int q1.1], i_S X q1.2)) rfl (ok_b_isSize (by omega) hq1) rfl ?_
  by_cases c2 : q1.1 = (0 : Int32)
  · replace h := (if_pos c2).symm.trans h
    refine i_rbT (c := q1.1 = (0 : Int32)) (t := 7) (n := 9) rfl c2 ?_
    refine i_rs 1 (cf' := (8, [some (.ref 0), some (.int l1)], [.int (-1 : Int32)], i_S X q1.2)) rfl ?_
    obtain rfl := Option.some.inj h
    exact i_rret rfl rfl
  · replace h := (if_neg c2).symm.trans h
    refine i_rbF (c := q1.1 = (0 : Int32)) (t := 7) (n := 9) rfl c2 ?_
    refine i_rs 4 (cf' := (15, [some (.ref 0), some (.int l1)], [.int (-1 : Int32), .int l1, .ref 22], i_S X q1.2)) rfl ?_
    obtain ⟨q3, hq3, h⟩ := i_bdE h
    refine i_rcall (k := 82) (as := [.ref 22, .int l1, .int (-1 : Int32)]) (cf1 := (18, [some (.ref 0), some (.int l1)], [], i_S X q1.2)) (cf' := (18, [some (.ref 0), some (.int l1)], [], i_S X q3)) rfl (ok_b_Search_goThrough (by omega) hq3) rfl ?_
    refine i_rs 3 (cf' := (25, [some (.ref 0), some (.int l1)], [.int (q3.1 22 5)], i_S X q3)) rfl ?_
    by_cases c4 : (q3.1 22 5) = (0 : Int32)
    · replace h := (if_pos c4).symm.trans h
      refine i_rbT (c := (q3.1 22 5) = (0 : Int32)) (t := 28) (n := 33) rfl c4 ?_
      refine i_rs 2 (cf' := (40, [some (.ref 0), some (.int l1)], [.int (-2 : Int32)], i_S X q3)) rfl ?_
      obtain rfl := Option.some.inj h
      exact i_rret rfl rfl
    · replace h := (if_neg c4).symm.trans h
      refine i_rbF (c := (q3.1 22 5) = (0 : Int32)) (t := 28) (n := 33) rfl c4 ?_
      refine i_rs 2 (cf' := (37, [some (.ref 0), some (.int l1)], [.ref 22], i_S X q3)) rfl ?_
      obtain ⟨q5, hq5, h⟩ := i_bdE h
      refine i_rcall (k := 95) (as := [.ref 22]) (cf1 := (40, [some (.ref 0), some (.int l1)], [], i_S X q3)) (cf' := (40, [some (.ref 0), some (.int l1)], [.int q5.1], i_S X q5.2)) rfl (ok_b_Search_bestCell (by omega) hq5) rfl ?_
      obtain rfl := Option.some.inj h
      exact i_rret rfl rfl
def r_dig_B81 (self : Int32 → Int32 → I_M → Option (Int32 × I_M)) (l2 : Int32) (l3 : Int32) (s0 : Int32) (M : I_M) : Option (Int32 × I_M) :=
  (if (0 : Int32) < (M.1 50 27) then
      (if s0 = (0 : Int32) then
        self l2 (l3 + (1 : Int32)) M
      else
        self l3 (l3 + (1 : Int32)) M)
    else
      self l2 (l3 + (1 : Int32)) M)
theorem ok_r_dig_B81 {X : Nat × (Nat → Int32)} {d : Nat} {self : Int32 → Int32 → I_M → Option (Int32 × I_M)} {l2 : Int32} {l3 : Int32} {s0 : Int32} {M : I_M} {r : (Int32 × I_M)} (hself : ∀ (m2 : Int32) (m3 : Int32) (M : I_M) (r : (Int32 × I_M)), self m2 m3 M = some r → I_RnE (I_Ex d) i_c222 (20, [some (.ref 50), none, some (.int m2), some (.int m3), none], [], i_S X M) (some (.int r.1)) (i_S X r.2)) (hd : 70 ≤ d + 1) (h : r_dig_B81 self l2 l3 s0 M = some r) : I_RnE (I_Ex d) i_c222 (81, [some (.ref 50), none, some (.int l2), some (.int l3), none], [.int s0], i_S X M) (some (.int r.1)) (i_S X r.2) := by
  unfold r_dig_B81 at h
  refine i_rs 3 (cf' := (87, [some (.ref 50), none, some (.int l2), some (.int l3), some (.int s0)], [.int (M.1 50 27)], i_S X M)) rfl ?_
  by_cases c9 : (0 : Int32) < (M.1 50 27)
  · replace h := (if_pos c9).symm.trans h
    refine i_rbT (c := (0 : Int32) < (M.1 50 27)) (t := 90) (n := 99) rfl c9 ?_
    refine i_rs 1 (cf' := (92, [some (.ref 50), none, some (.int l2), some (.int l3), some (.int s0)], [.int s0], i_S X M)) rfl ?_
    by_cases c10 : s0 = (0 : Int32)
    · replace h := (if_pos c10).symm.trans h
      refine i_rbT (c := s0 = (0 : Int32)) (t := 99) (n := 95) rfl c10 ?_
      refine i_rs 4 (cf' := (20, [some (.ref 50), none, some (.int l2), some (.int (l3 + (1 : Int32))), some (.int s0)], [], i_S X M)) rfl ?_
      refine i_fg (lv' := [some (.ref 50), none, some (.int l2), some (.int (l3 + (1 : Int32))), none]) (And.intro rfl (And.intro rfl (And.intro rfl True.intro))) ?_
      exact hself l2 (l3 + (1 : Int32)) M _ h
    · replace h := (if_neg c10).symm.trans h
      refine i_rbF (c := s0 = (0 : Int32)) (t := 99) (n := 95) rfl c10 ?_
      refine i_rs 5 (cf' := (20, [some (.ref 50), none, some (.int l3), some (.int (l3 + (1 : Int32))), some (.int s0)], [], i_S X M)) rfl ?_
      refine i_fg (lv' := [some (.ref 50), none, some (.int l3), some (.int (l3 + (1 : Int32))), none]) (And.intro rfl (And.intro rfl (And.intro rfl True.intro))) ?_
      exact hself l3 (l3 + (1 : Int32)) M _ h
  · replace h := (if_neg c9).symm.trans h
    refine i_rbF (c := (0 : Int32) < (M.1 50 27)) (t := 90) (n := 99) rfl c9 ?_
    refine i_rs 4 (cf' := (20, [some (.ref 50), none, some (.int l2), some (.int (l3 + (1 : Int32))), some (.int s0)], [], i_S X M)) rfl ?_
    refine i_fg (lv' := [some (.ref 50), none, some (.int l2), some (.int (l3 + (1 : Int32))), none]) (And.intro rfl (And.intro rfl (And.intro rfl True.intro))) ?_
    exact hself l2 (l3 + (1 : Int32)) M _ h
def r_dig_L20 : Nat → Int32 → Int32 → I_M → Option (Int32 × I_M)
  | 0, _, _, _ => none
  | n + 1, l2, l3, M =>
    Option.bind (r_cells M) (fun q1 => (if l3 < q1.1 then
        (if l2 < (0 : Int32) then
          r_dig_B81 ((r_dig_L20 n)) l2 l3 (1 : Int32) q1.2
        else
          i_g l3 25 (i_g ((25 : Int32) + l2) 60 (i_g l2 25 (i_g ((25 : Int32) + l3) 60 ((if (0 : Int32) < (lg_cmp ((Int32.toInt64 (q1.2.1 63 (Int32.toNatClampNeg l3))) * (Int32.toInt64 ((q1.2.1 51 (Int32.toNatClampNeg ((25 : Int32) + l2))) + (1 : Int32)))) ((Int32.toInt64 (q1.2.1 63 (Int32.toNatClampNeg l2))) * (Int32.toInt64 ((q1.2.1 51 (Int32.toNatClampNeg ((25 : Int32) + l3))) + (1 : Int32))))) then
            r_dig_B81 ((r_dig_L20 n)) l2 l3 (1 : Int32) q1.2
          else
            r_dig_B81 ((r_dig_L20 n)) l2 l3 (0 : Int32) q1.2))))))
      else
        some (l2, q1.2)))
theorem ok_r_dig_L20 {X : Nat × (Nat → Int32)} {d : Nat} (hd : 70 ≤ d + 1) : ∀ (n : Nat) (l2 : Int32) (l3 : Int32) (M : I_M) (r : (Int32 × I_M)), r_dig_L20 n l2 l3 M = some r → I_RnE (I_Ex d) i_c222 (20, [some (.ref 50), none, some (.int l2), some (.int l3), none], [], i_S X M) (some (.int r.1)) (i_S X r.2) := by
  intro n
  induction n with
  | zero => intro _ _ M r h; cases h
  | succ n hself =>
    intro l2 l3 M r h
    rw [r_dig_L20] at h
    refine i_rs 2 (cf' := (22, [some (.ref 50), none, some (.int l2), some (.int l3), none], [.ref 50, .int l3], i_S X M)) rfl ?_
    obtain ⟨q1, hq1, h⟩ := i_bdE h
    refine i_rcall (k := 178) (as := [.ref 50]) (cf1 := (25, [some (.ref 50), none, some (.int l2), some (.int l3), none], [.int l3], i_S X M)) (cf' := (25, [some (.ref 50), none, some (.int l2), some (.int l3), none], [.int q1.1, .int l3], i_S X q1.2)) rfl (ok_r_cells (by omega) hq1) rfl ?_
    by_cases c2 : l3 < q1.1
    · replace h := (if_pos c2).symm.trans h
      refine i_rbT (c := l3 < q1.1) (t := 28) (n := 107) rfl c2 ?_
      refine i_rs 1 (cf' := (29, [some (.ref 50), none, some (.int l2), some (.int l3), none], [.int l2], i_S X q1.2)) rfl ?_
      by_cases c3 : l2 < (0 : Int32)
      · replace h := (if_pos c3).symm.trans h
        refine i_rbT (c := l2 < (0 : Int32)) (t := 76) (n := 32) rfl c3 ?_
        refine i_rs 2 (cf' := (81, [some (.ref 50), none, some (.int l2), some (.int l3), none], [.int (1 : Int32)], i_S X q1.2)) rfl ?_
        refine i_fg (lv' := [some (.ref 50), none, some (.int l2), some (.int l3), none]) (And.intro rfl (And.intro rfl (And.intro rfl True.intro))) ?_
        exact ok_r_dig_B81 hself (by omega) h
      · replace h := (if_neg c3).symm.trans h
        refine i_rbF (c := l2 < (0 : Int32)) (t := 76) (n := 32) rfl c3 ?_
        refine i_rs 3 (cf' := (37, [some (.ref 50), none, some (.int l2), some (.int l3), none], [.int l3, .ref 63], i_S X q1.2)) rfl ?_
        obtain ⟨g4, h⟩ := i_gE h
        refine i_riald (n := 25) (cf' := (38, [some (.ref 50), none, some (.int l2), some (.int l3), none], [.int (q1.2.1 63 (Int32.toNatClampNeg l3))], i_S X q1.2)) rfl rfl (by decide) g4 rfl ?_
        refine i_rs 6 (cf' := (47, [some (.ref 50), none, some (.int l2), some (.int l3), none], [.int ((25 : Int32) + l2), .ref 51, .long (Int32.toInt64 (q1.2.1 63 (Int32.toNatClampNeg l3)))], i_S X q1.2)) rfl ?_
        obtain ⟨g5, h⟩ := i_gE h
        refine i_riald (n := 60) (cf' := (48, [some (.ref 50), none, some (.int l2), some (.int l3), none], [.int (q1.2.1 51 (Int32.toNatClampNeg ((25 : Int32) + l2))), .long (Int32.toInt64 (q1.2.1 63 (Int32.toNatClampNeg l3)))], i_S X q1.2)) rfl rfl (by decide) g5 rfl ?_
        refine i_rs 7 (cf' := (57, [some (.ref 50), none, some (.int l2), some (.int l3), none], [.int l2, .ref 63, .long ((Int32.toInt64 (q1.2.1 63 (Int32.toNatClampNeg l3))) * (Int32.toInt64 ((q1.2.1 51 (Int32.toNatClampNeg ((25 : Int32) + l2))) + (1 : Int32))))], i_S X q1.2)) rfl ?_
        obtain ⟨g6, h⟩ := i_gE h
        refine i_riald (n := 25) (cf' := (58, [some (.ref 50), none, some (.int l2), some (.int l3), none], [.int (q1.2.1 63 (Int32.toNatClampNeg l2)), .long ((Int32.toInt64 (q1.2.1 63 (Int32.toNatClampNeg l3))) * (Int32.toInt64 ((q1.2.1 51 (Int32.toNatClampNeg ((25 : Int32) + l2))) + (1 : Int32))))], i_S X q1.2)) rfl rfl (by decide) g6 rfl ?_
        refine i_rs 6 (cf' := (67, [some (.ref 50), none, some (.int l2), some (.int l3), none], [.int ((25 : Int32) + l3), .ref 51, .long (Int32.toInt64 (q1.2.1 63 (Int32.toNatClampNeg l2))), .long ((Int32.toInt64 (q1.2.1 63 (Int32.toNatClampNeg l3))) * (Int32.toInt64 ((q1.2.1 51 (Int32.toNatClampNeg ((25 : Int32) + l2))) + (1 : Int32))))], i_S X q1.2)) rfl ?_
        obtain ⟨g7, h⟩ := i_gE h
        refine i_riald (n := 60) (cf' := (68, [some (.ref 50), none, some (.int l2), some (.int l3), none], [.int (q1.2.1 51 (Int32.toNatClampNeg ((25 : Int32) + l3))), .long (Int32.toInt64 (q1.2.1 63 (Int32.toNatClampNeg l2))), .long ((Int32.toInt64 (q1.2.1 63 (Int32.toNatClampNeg l3))) * (Int32.toInt64 ((q1.2.1 51 (Int32.toNatClampNeg ((25 : Int32) + l2))) + (1 : Int32))))], i_S X q1.2)) rfl rfl (by decide) g7 rfl ?_
        refine i_rs 5 (cf' := (73, [some (.ref 50), none, some (.int l2), some (.int l3), none], [.int (lg_cmp ((Int32.toInt64 (q1.2.1 63 (Int32.toNatClampNeg l3))) * (Int32.toInt64 ((q1.2.1 51 (Int32.toNatClampNeg ((25 : Int32) + l2))) + (1 : Int32)))) ((Int32.toInt64 (q1.2.1 63 (Int32.toNatClampNeg l2))) * (Int32.toInt64 ((q1.2.1 51 (Int32.toNatClampNeg ((25 : Int32) + l3))) + (1 : Int32)))))], i_S X q1.2)) rfl ?_
        by_cases c8 : (0 : Int32) < (lg_cmp ((Int32.toInt64 (q1.2.1 63 (Int32.toNatClampNeg l3))) * (Int32.toInt64 ((q1.2.1 51 (Int32.toNatClampNeg ((25 : Int32) + l2))) + (1 : Int32)))) ((Int32.toInt64 (q1.2.1 63 (Int32.toNatClampNeg l2))) * (Int32.toInt64 ((q1.2.1 51 (Int32.toNatClampNeg ((25 : Int32) + l3))) + (1 : Int32)))))
        · replace h := (if_pos c8).symm.trans h
          refine i_rbT (c := (0 : Int32) < (lg_cmp ((Int32.toInt64 (q1.2.1 63 (Int32.toNatClampNeg l3))) * (Int32.toInt64 ((q1.2.1 51 (Int32.toNatClampNeg ((25 : Int32) + l2))) + (1 : Int32)))) ((Int32.toInt64 (q1.2.1 63 (Int32.toNatClampNeg l2))) * (Int32.toInt64 ((q1.2.1 51 (Int32.toNatClampNeg ((25 : Int32) + l3))) + (1 : Int32)))))) (t := 76) (n := 80) rfl c8 ?_
          refine i_rs 2 (cf' := (81, [some (.ref 50), none, some (.int l2), some (.int l3), none], [.int (1 : Int32)], i_S X q1.2)) rfl ?_
          refine i_fg (lv' := [some (.ref 50), none, some (.int l2), some (.int l3), none]) (And.intro rfl (And.intro rfl (And.intro rfl True.intro))) ?_
          exact ok_r_dig_B81 hself (by omega) h
        · replace h := (if_neg c8).symm.trans h
          refine i_rbF (c := (0 : Int32) < (lg_cmp ((Int32.toInt64 (q1.2.1 63 (Int32.toNatClampNeg l3))) * (Int32.toInt64 ((q1.2.1 51 (Int32.toNatClampNeg ((25 : Int32) + l2))) + (1 : Int32)))) ((Int32.toInt64 (q1.2.1 63 (Int32.toNatClampNeg l2))) * (Int32.toInt64 ((q1.2.1 51 (Int32.toNatClampNeg ((25 : Int32) + l3))) + (1 : Int32)))))) (t := 76) (n := 80) rfl c8 ?_
          refine i_rs 1 (cf' := (81, [some (.ref 50), none, some (.int l2), some (.int l3), none], [.int (0 : Int32)], i_S X q1.2)) rfl ?_
          refine i_fg (lv' := [some (.ref 50), none, some (.int l2), some (.int l3), none]) (And.intro rfl (And.intro rfl (And.intro rfl True.intro))) ?_
          exact ok_r_dig_B81 hself (by omega) h
    · replace h := (if_neg c2).symm.trans h
      refine i_rbF (c := l3 < q1.1) (t := 28) (n := 107) rfl c2 ?_
      refine i_rs 1 (cf' := (108, [some (.ref 50), none, some (.int l2), some (.int l3), none], [.int l2], i_S X q1.2)) rfl ?_
      obtain rfl := Option.some.inj h
      exact i_rret rfl rfl
def r_dig (l1 : Int32) (M : I_M) : Option (Int32 × I_M) :=
  Option.bind (r_isN l1 M) (fun q11 => (if q11.1 = (0 : Int32) then
      some ((-1 : Int32), q11.2)
    else
      Option.bind (r_goesThrough l1 (0 : Int32) q11.2) (fun q13 => r_dig_L20 i_F (-2 : Int32) (0 : Int32) q13)))
theorem ok_r_dig {X : Nat × (Nat → Int32)} {d : Nat} {l1 : Int32} {M : I_M} {r : (Int32 × I_M)} (hd : 70 ≤ d) (h : r_dig l1 M = some r) : I_Ex d 222 [.ref 50, .int l1] (i_S X M) (some (.int r.1)) (i_S X r.2) := by
  obtain ⟨d, rfl⟩ : ∃ d1, d = d1 + 1 := ⟨d - 1, by omega⟩
  unfold r_dig at h
  refine i_ex (e := i_r222) (lv := [some (.ref 50), some (.int l1), none, none, none]) rfl (Nat.le_of_ble_eq_true rfl) rfl ?_
  show I_RnE (I_Ex d) i_c222 (0, [some (.ref 50), some (.int l1), none, none, none], [], i_S X M) _ _
  refine i_rs 1 (cf' := (1, [some (.ref 50), some (.int l1), none, none, none], [.int l1], i_S X M)) rfl ?_
  obtain ⟨q11, hq11, h⟩ := i_bdE h
  refine i_rcall (k := 213) (as := [.int l1]) (cf1 := (4, [some (.ref 50), some (.int l1), none, none, none], [], i_S X M)) (cf' := (4, [some (.ref 50), some (.int l1), none, none, none], [.int q11.1], i_S X q11.2)) rfl (ok_r_isN (by omega) hq11) rfl ?_
  by_cases c12 : q11.1 = (0 : Int32)
  · replace h := (if_pos c12).symm.trans h
    refine i_rbT (c := q11.1 = (0 : Int32)) (t := 7) (n := 9) rfl c12 ?_
    refine i_rs 1 (cf' := (8, [some (.ref 50), some (.int l1), none, none, none], [.int (-1 : Int32)], i_S X q11.2)) rfl ?_
    obtain rfl := Option.some.inj h
    exact i_rret rfl rfl
  · replace h := (if_neg c12).symm.trans h
    refine i_rbF (c := q11.1 = (0 : Int32)) (t := 7) (n := 9) rfl c12 ?_
    refine i_rs 3 (cf' := (12, [some (.ref 50), some (.int l1), none, none, none], [.int (0 : Int32), .int l1, .ref 50], i_S X q11.2)) rfl ?_
    obtain ⟨q13, hq13, h⟩ := i_bdE h
    refine i_rcall (k := 214) (as := [.ref 50, .int l1, .int (0 : Int32)]) (cf1 := (15, [some (.ref 50), some (.int l1), none, none, none], [], i_S X q11.2)) (cf' := (15, [some (.ref 50), some (.int l1), none, none, none], [], i_S X q13)) rfl (ok_r_goesThrough (by omega) hq13) rfl ?_
    refine i_rs 4 (cf' := (20, [some (.ref 50), some (.int l1), some (.int (-2 : Int32)), some (.int (0 : Int32)), none], [], i_S X q13)) rfl ?_
    refine i_fg (lv' := [some (.ref 50), none, some (.int (-2 : Int32)), some (.int (0 : Int32)), none]) (And.intro rfl (And.intro rfl (And.intro rfl True.intro))) ?_
    refine ok_r_dig_L20 (by omega) i_F (-2 : Int32) (0 : Int32) q13 _ h
def b_Search_gatherFitting_L11 : Nat → Int32 → I_M → Option I_M
  | 0, _, _ => none
  | n + 1, l1, M =>
    Option.bind (b_Search_places M) (fun q1 => (if l1 < q1.1 then
        Option.bind (b_Search_fits l1 l1 (-1 : Int32) q1.2) (fun q3 => (if q3.1 = (0 : Int32) then
          (b_Search_gatherFitting_L11 n) (l1 + (1 : Int32)) q3.2
        else
          i_g (q3.2.1 22 10) 250 ((b_Search_gatherFitting_L11 n) (l1 + (1 : Int32)) (i_wI (i_wI q3.2 26 (Int32.toNatClampNeg (q3.2.1 22 10)) l1) 22 10 ((q3.2.1 22 10) + (1 : Int32))))))
      else
        some q1.2))
theorem ok_b_Search_gatherFitting_L11 {X : Nat × (Nat → Int32)} {d : Nat} (hd : 6 ≤ d + 1) : ∀ (n : Nat) (l1 : Int32) (M : I_M) (r : I_M), b_Search_gatherFitting_L11 n l1 M = some r → I_RnE (I_Ex d) i_c97 (11, [some (.ref 22), some (.int l1)], [], i_S X M) none (i_S X r) := by
  intro n
  induction n with
  | zero => intro _ M r h; cases h
  | succ n hself =>
    intro l1 M r h
    rw [b_Search_gatherFitting_L11] at h
    refine i_rs 2 (cf' := (13, [some (.ref 22), some (.int l1)], [.ref 22, .int l1], i_S X M)) rfl ?_
    obtain ⟨q1, hq1, h⟩ := i_bdE h
    refine i_rcall (k := 84) (as := [.ref 22]) (cf1 := (16, [some (.ref 22), some (.int l1)], [.int l1], i_S X M)) (cf' := (16, [some (.ref 22), some (.int l1)], [.int q1.1, .int l1], i_S X q1.2)) rfl (ok_b_Search_places (by omega) hq1) rfl ?_
    by_cases c2 : l1 < q1.1
    · replace h := (if_pos c2).symm.trans h
      refine i_rbT (c := l1 < q1.1) (t := 19) (n := 55) rfl c2 ?_
      refine i_rs 4 (cf' := (23, [some (.ref 22), some (.int l1)], [.int (-1 : Int32), .int l1, .int l1, .ref 22], i_S X q1.2)) rfl ?_
      obtain ⟨q3, hq3, h⟩ := i_bdE h
      refine i_rcall (k := 87) (as := [.ref 22, .int l1, .int l1, .int (-1 : Int32)]) (cf1 := (26, [some (.ref 22), some (.int l1)], [], i_S X q1.2)) (cf' := (26, [some (.ref 22), some (.int l1)], [.int q3.1], i_S X q3.2)) rfl (ok_b_Search_fits (by omega) hq3) rfl ?_
      by_cases c4 : q3.1 = (0 : Int32)
      · replace h := (if_pos c4).symm.trans h
        refine i_rbT (c := q3.1 = (0 : Int32)) (t := 49) (n := 29) rfl c4 ?_
        refine i_rs 2 (cf' := (11, [some (.ref 22), some (.int (l1 + (1 : Int32)))], [], i_S X q3.2)) rfl ?_
        refine i_fg (lv' := [some (.ref 22), some (.int (l1 + (1 : Int32)))]) (And.intro rfl (And.intro rfl True.intro)) ?_
        exact hself (l1 + (1 : Int32)) q3.2 _ h
      · replace h := (if_neg c4).symm.trans h
        refine i_rbF (c := q3.1 = (0 : Int32)) (t := 49) (n := 29) rfl c4 ?_
        refine i_rs 5 (cf' := (38, [some (.ref 22), some (.int l1)], [.int l1, .int (q3.2.1 22 10), .ref 26], i_S X q3.2)) rfl ?_
        obtain ⟨g5, h⟩ := i_gE h
        refine i_riast (n := 250) (cf' := (39, [some (.ref 22), some (.int l1)], [], i_S X (i_wI q3.2 26 (Int32.toNatClampNeg (q3.2.1 22 10)) l1))) rfl rfl (Or.inl rfl) g5 rfl ?_
        refine i_rs 8 (cf' := (11, [some (.ref 22), some (.int (l1 + (1 : Int32)))], [], i_S X (i_wI (i_wI q3.2 26 (Int32.toNatClampNeg (q3.2.1 22 10)) l1) 22 10 ((q3.2.1 22 10) + (1 : Int32))))) rfl ?_
        refine i_fg (lv' := [some (.ref 22), some (.int (l1 + (1 : Int32)))]) (And.intro rfl (And.intro rfl True.intro)) ?_
        exact hself (l1 + (1 : Int32)) (i_wI (i_wI q3.2 26 (Int32.toNatClampNeg (q3.2.1 22 10)) l1) 22 10 ((q3.2.1 22 10) + (1 : Int32))) _ h
    · replace h := (if_neg c2).symm.trans h
      refine i_rbF (c := l1 < q1.1) (t := 19) (n := 55) rfl c2 ?_
      obtain rfl := Option.some.inj h
      exact i_rret rfl rfl
def b_Search_gatherFitting (M : I_M) : Option I_M :=
  Option.bind (b_Search_listen M) (fun q6 => b_Search_gatherFitting_L11 i_F (0 : Int32) (i_wI q6 22 10 (0 : Int32)))
theorem ok_b_Search_gatherFitting {X : Nat × (Nat → Int32)} {d : Nat} {M : I_M} {r : I_M} (hd : 6 ≤ d) (h : b_Search_gatherFitting M = some r) : I_Ex d 97 [.ref 22] (i_S X M) none (i_S X r) := by
  obtain ⟨d, rfl⟩ : ∃ d1, d = d1 + 1 := ⟨d - 1, by omega⟩
  unfold b_Search_gatherFitting at h
  refine i_ex (e := i_r97) (lv := [some (.ref 22), none]) rfl (Nat.le_of_ble_eq_true rfl) rfl ?_
  show I_RnE (I_Ex d) i_c97 (0, [some (.ref 22), none], [], i_S X M) _ _
  refine i_rs 1 (cf' := (1, [some (.ref 22), none], [.ref 22], i_S X M)) rfl ?_
  obtain ⟨q6, hq6, h⟩ := i_bdE h
  refine i_rcall (k := 83) (as := [.ref 22]) (cf1 := (4, [some (.ref 22), none], [], i_S X M)) (cf' := (4, [some (.ref 22), none], [], i_S X q6)) rfl (ok_b_Search_listen (by omega) hq6) rfl ?_
  refine i_rs 5 (cf' := (11, [some (.ref 22), some (.int (0 : Int32))], [], i_S X (i_wI q6 22 10 (0 : Int32)))) rfl ?_
  refine i_fg (lv' := [some (.ref 22), some (.int (0 : Int32))]) (And.intro rfl (And.intro rfl True.intro)) ?_
  refine ok_b_Search_gatherFitting_L11 (by omega) i_F (0 : Int32) (i_wI q6 22 10 (0 : Int32)) _ h
def b_Search_tellHeardBy_L24 (l1 : Int32) (l2 : Int32) (l3 : Int32) (k80 : I_M → Option I_M) : Nat → Int32 → I_M → Option I_M
  | 0, _, _ => none
  | n + 1, l4, M =>
    (if l4 < (10 : Int32) then
        Option.bind (b_Law_loudness l3 l4 (M.1 1 9) l2 l1 M) (fun q7 => Option.bind (b_Law_heardOf q7.1 q7.2) (fun q8 => i_g ((((l2 * (9 : Int32)) + l3) * (10 : Int32)) + l4) 2250 ((b_Search_tellHeardBy_L24 l1 l2 l3 k80 n) (l4 + (1 : Int32)) (i_wI q8.2 25 (Int32.toNatClampNeg ((((l2 * (9 : Int32)) + l3) * (10 : Int32)) + l4)) q8.1))))
      else
        k80  M)
theorem ok_b_Search_tellHeardBy_L24 {X : Nat × (Nat → Int32)} {d : Nat} {l1 : Int32} {l2 : Int32} {l3 : Int32} {k80 : I_M → Option I_M} (hd : 5 ≤ d + 1) (hk80 : ∀ (M : I_M) (r : I_M), k80 M = some r → I_RnE (I_Ex d) i_c99 (80, [some (.ref 22), some (.int l1), some (.int l2), some (.int l3), none], [], i_S X M) none (i_S X r)) : ∀ (n : Nat) (l4 : Int32) (M : I_M) (r : I_M), b_Search_tellHeardBy_L24 l1 l2 l3 k80 n l4 M = some r → I_RnE (I_Ex d) i_c99 (24, [some (.ref 22), some (.int l1), some (.int l2), some (.int l3), some (.int l4)], [], i_S X M) none (i_S X r) := by
  intro n
  induction n with
  | zero => intro _ M r h; cases h
  | succ n hself =>
    intro l4 M r h
    rw [b_Search_tellHeardBy_L24] at h
    refine i_rs 2 (cf' := (28, [some (.ref 22), some (.int l1), some (.int l2), some (.int l3), some (.int l4)], [.int (10 : Int32), .int l4], i_S X M)) rfl ?_
    by_cases c6 : l4 < (10 : Int32)
    · replace h := (if_pos c6).symm.trans h
      refine i_rbT (c := l4 < (10 : Int32)) (t := 31) (n := 80) rfl c6 ?_
      refine i_rs 22 (cf' := (67, [some (.ref 22), some (.int l1), some (.int l2), some (.int l3), some (.int l4)], [.int l1, .int l2, .int (M.1 1 9), .int l4, .int l3, .ref 9, .ref 9, .int ((((l2 * (9 : Int32)) + l3) * (10 : Int32)) + l4), .ref 25], i_S X M)) rfl ?_
      obtain ⟨q7, hq7, h⟩ := i_bdE h
      refine i_rcall (k := 68) (as := [.ref 9, .int l3, .int l4, .int (M.1 1 9), .int l2, .int l1]) (cf1 := (70, [some (.ref 22), some (.int l1), some (.int l2), some (.int l3), some (.int l4)], [.ref 9, .int ((((l2 * (9 : Int32)) + l3) * (10 : Int32)) + l4), .ref 25], i_S X M)) (cf' := (70, [some (.ref 22), some (.int l1), some (.int l2), some (.int l3), some (.int l4)], [.int q7.1, .ref 9, .int ((((l2 * (9 : Int32)) + l3) * (10 : Int32)) + l4), .ref 25], i_S X q7.2)) rfl (ok_b_Law_loudness (by omega) hq7) rfl ?_
      obtain ⟨q8, hq8, h⟩ := i_bdE h
      refine i_rcall (k := 76) (as := [.ref 9, .int q7.1]) (cf1 := (73, [some (.ref 22), some (.int l1), some (.int l2), some (.int l3), some (.int l4)], [.int ((((l2 * (9 : Int32)) + l3) * (10 : Int32)) + l4), .ref 25], i_S X q7.2)) (cf' := (73, [some (.ref 22), some (.int l1), some (.int l2), some (.int l3), some (.int l4)], [.int q8.1, .int ((((l2 * (9 : Int32)) + l3) * (10 : Int32)) + l4), .ref 25], i_S X q8.2)) rfl (ok_b_Law_heardOf (by omega) hq8) rfl ?_
      obtain ⟨g9, h⟩ := i_gE h
      refine i_riast (n := 2250) (cf' := (74, [some (.ref 22), some (.int l1), some (.int l2), some (.int l3), some (.int l4)], [], i_S X (i_wI q8.2 25 (Int32.toNatClampNeg ((((l2 * (9 : Int32)) + l3) * (10 : Int32)) + l4)) q8.1))) rfl rfl (Or.inl rfl) g9 rfl ?_
      refine i_rs 2 (cf' := (24, [some (.ref 22), some (.int l1), some (.int l2), some (.int l3), some (.int (l4 + (1 : Int32)))], [], i_S X (i_wI q8.2 25 (Int32.toNatClampNeg ((((l2 * (9 : Int32)) + l3) * (10 : Int32)) + l4)) q8.1))) rfl ?_
      refine i_fg (lv' := [some (.ref 22), some (.int l1), some (.int l2), some (.int l3), some (.int (l4 + (1 : Int32)))]) (And.intro rfl (And.intro rfl (And.intro rfl (And.intro rfl (And.intro rfl True.intro))))) ?_
      exact hself (l4 + (1 : Int32)) (i_wI q8.2 25 (Int32.toNatClampNeg ((((l2 * (9 : Int32)) + l3) * (10 : Int32)) + l4)) q8.1) _ h
    · replace h := (if_neg c6).symm.trans h
      refine i_rbF (c := l4 < (10 : Int32)) (t := 31) (n := 80) rfl c6 ?_
      refine i_fg (lv' := [some (.ref 22), some (.int l1), some (.int l2), some (.int l3), none]) (And.intro rfl (And.intro rfl (And.intro rfl (And.intro rfl True.intro)))) ?_
      exact hk80  M _ h
def b_Search_tellHeardBy_L15 (l1 : Int32) (l2 : Int32) (k86 : I_M → Option I_M) : Nat → Int32 → I_M → Option I_M
  | 0, _, _ => none
  | n + 1, l3, M =>
    (if l3 < (9 : Int32) then
        b_Search_tellHeardBy_L24 l1 l2 l3 (fun M5 =>
            (b_Search_tellHeardBy_L15 l1 l2 k86 n) (l3 + (1 : Int32)) M5) i_F (0 : Int32) M
      else
        k86  M)
theorem ok_b_Search_tellHeardBy_L15 {X : Nat × (Nat → Int32)} {d : Nat} {l1 : Int32} {l2 : Int32} {k86 : I_M → Option I_M} (hd : 5 ≤ d + 1) (hk86 : ∀ (M : I_M) (r : I_M), k86 M = some r → I_RnE (I_Ex d) i_c99 (86, [some (.ref 22), some (.int l1), some (.int l2), none, none], [], i_S X M) none (i_S X r)) : ∀ (n : Nat) (l3 : Int32) (M : I_M) (r : I_M), b_Search_tellHeardBy_L15 l1 l2 k86 n l3 M = some r → I_RnE (I_Ex d) i_c99 (15, [some (.ref 22), some (.int l1), some (.int l2), some (.int l3), none], [], i_S X M) none (i_S X r) := by
  intro n
  induction n with
  | zero => intro _ M r h; cases h
  | succ n hself =>
    intro l3 M r h
    rw [b_Search_tellHeardBy_L15] at h
    refine i_rs 2 (cf' := (18, [some (.ref 22), some (.int l1), some (.int l2), some (.int l3), none], [.int (9 : Int32), .int l3], i_S X M)) rfl ?_
    by_cases c4 : l3 < (9 : Int32)
    · replace h := (if_pos c4).symm.trans h
      refine i_rbT (c := l3 < (9 : Int32)) (t := 21) (n := 86) rfl c4 ?_
      refine i_rs 2 (cf' := (24, [some (.ref 22), some (.int l1), some (.int l2), some (.int l3), some (.int (0 : Int32))], [], i_S X M)) rfl ?_
      refine i_fg (lv' := [some (.ref 22), some (.int l1), some (.int l2), some (.int l3), some (.int (0 : Int32))]) (And.intro rfl (And.intro rfl (And.intro rfl (And.intro rfl (And.intro rfl True.intro))))) ?_
      refine ok_b_Search_tellHeardBy_L24 (by omega) (fun M5 r h => ?_) i_F (0 : Int32) M _ h
      refine i_rs 2 (cf' := (15, [some (.ref 22), some (.int l1), some (.int l2), some (.int (l3 + (1 : Int32))), none], [], i_S X M5)) rfl ?_
      refine i_fg (lv' := [some (.ref 22), some (.int l1), some (.int l2), some (.int (l3 + (1 : Int32))), none]) (And.intro rfl (And.intro rfl (And.intro rfl (And.intro rfl True.intro)))) ?_
      exact hself (l3 + (1 : Int32)) M5 _ h
    · replace h := (if_neg c4).symm.trans h
      refine i_rbF (c := l3 < (9 : Int32)) (t := 21) (n := 86) rfl c4 ?_
      refine i_fg (lv' := [some (.ref 22), some (.int l1), some (.int l2), none, none]) (And.intro rfl (And.intro rfl (And.intro rfl True.intro))) ?_
      exact hk86  M _ h
def b_Search_tellHeardBy_L2 (l1 : Int32) : Nat → Int32 → I_M → Option I_M
  | 0, _, _ => none
  | n + 1, l2, M =>
    Option.bind (b_Land_cells M) (fun q1 => (if l2 < q1.1 then
        b_Search_tellHeardBy_L15 l1 l2 (fun M3 =>
            (b_Search_tellHeardBy_L2 l1 n) (l2 + (1 : Int32)) M3) i_F (0 : Int32) q1.2
      else
        some q1.2))
theorem ok_b_Search_tellHeardBy_L2 {X : Nat × (Nat → Int32)} {d : Nat} {l1 : Int32} (hd : 5 ≤ d + 1) : ∀ (n : Nat) (l2 : Int32) (M : I_M) (r : I_M), b_Search_tellHeardBy_L2 l1 n l2 M = some r → I_RnE (I_Ex d) i_c99 (2, [some (.ref 22), some (.int l1), some (.int l2), none, none], [], i_S X M) none (i_S X r) := by
  intro n
  induction n with
  | zero => intro _ M r h; cases h
  | succ n hself =>
    intro l2 M r h
    rw [b_Search_tellHeardBy_L2] at h
    refine i_rs 3 (cf' := (7, [some (.ref 22), some (.int l1), some (.int l2), none, none], [.ref 1, .int l2], i_S X M)) rfl ?_
    obtain ⟨q1, hq1, h⟩ := i_bdE h
    refine i_rcall (k := 21) (as := [.ref 1]) (cf1 := (10, [some (.ref 22), some (.int l1), some (.int l2), none, none], [.int l2], i_S X M)) (cf' := (10, [some (.ref 22), some (.int l1), some (.int l2), none, none], [.int q1.1, .int l2], i_S X q1.2)) rfl (ok_b_Land_cells (by omega) hq1) rfl ?_
    by_cases c2 : l2 < q1.1
    · replace h := (if_pos c2).symm.trans h
      refine i_rbT (c := l2 < q1.1) (t := 13) (n := 92) rfl c2 ?_
      refine i_rs 2 (cf' := (15, [some (.ref 22), some (.int l1), some (.int l2), some (.int (0 : Int32)), none], [], i_S X q1.2)) rfl ?_
      refine i_fg (lv' := [some (.ref 22), some (.int l1), some (.int l2), some (.int (0 : Int32)), none]) (And.intro rfl (And.intro rfl (And.intro rfl (And.intro rfl True.intro)))) ?_
      refine ok_b_Search_tellHeardBy_L15 (by omega) (fun M3 r h => ?_) i_F (0 : Int32) q1.2 _ h
      refine i_rs 2 (cf' := (2, [some (.ref 22), some (.int l1), some (.int (l2 + (1 : Int32))), none, none], [], i_S X M3)) rfl ?_
      refine i_fg (lv' := [some (.ref 22), some (.int l1), some (.int (l2 + (1 : Int32))), none, none]) (And.intro rfl (And.intro rfl (And.intro rfl True.intro))) ?_
      exact hself (l2 + (1 : Int32)) M3 _ h
    · replace h := (if_neg c2).symm.trans h
      refine i_rbF (c := l2 < q1.1) (t := 13) (n := 92) rfl c2 ?_
      obtain rfl := Option.some.inj h
      exact i_rret rfl rfl
def b_Search_tellHeardBy (l1 : Int32) (M : I_M) : Option I_M :=
  b_Search_tellHeardBy_L2 l1 i_F (0 : Int32) M
theorem ok_b_Search_tellHeardBy {X : Nat × (Nat → Int32)} {d : Nat} {l1 : Int32} {M : I_M} {r : I_M} (hd : 5 ≤ d) (h : b_Search_tellHeardBy l1 M = some r) : I_Ex d 99 [.ref 22, .int l1] (i_S X M) none (i_S X r) := by
  obtain ⟨d, rfl⟩ : ∃ d1, d = d1 + 1 := ⟨d - 1, by omega⟩
  unfold b_Search_tellHeardBy at h
  refine i_ex (e := i_r99) (lv := [some (.ref 22), some (.int l1), none, none, none]) rfl (Nat.le_of_ble_eq_true rfl) rfl ?_
  show I_RnE (I_Ex d) i_c99 (0, [some (.ref 22), some (.int l1), none, none, none], [], i_S X M) _ _
  refine i_rs 2 (cf' := (2, [some (.ref 22), some (.int l1), some (.int (0 : Int32)), none, none], [], i_S X M)) rfl ?_
  refine i_fg (lv' := [some (.ref 22), some (.int l1), some (.int (0 : Int32)), none, none]) (And.intro rfl (And.intro rfl (And.intro rfl True.intro))) ?_
  refine ok_b_Search_tellHeardBy_L2 (by omega) i_F (0 : Int32) M _ h
def j_fillI_27_L5 (l1 : Int32) (l3 : Int32) : Nat → Int32 → I_M → Option I_M
  | 0, _, _ => none
  | n + 1, l2, M =>
    (if l2 < l3 then
        i_g l2 100 ((j_fillI_27_L5 l1 l3 n) (l2 + (1 : Int32)) (i_wI M 27 (Int32.toNatClampNeg l2) l1))
      else
        some M)
theorem ok_j_fillI_27_L5 {X : Nat × (Nat → Int32)} {d : Nat} {l1 : Int32} {l3 : Int32} (hd : 1 ≤ d + 1) : ∀ (n : Nat) (l2 : Int32) (M : I_M) (r : I_M), j_fillI_27_L5 l1 l3 n l2 M = some r → I_RnE (I_Ex d) i_c3 (5, [some (.ref 27), some (.int l1), some (.int l2), some (.int l3)], [], i_S X M) none (i_S X r) := by
  intro n
  induction n with
  | zero => intro _ M r h; cases h
  | succ n hself =>
    intro l2 M r h
    rw [j_fillI_27_L5] at h
    refine i_rs 2 (cf' := (7, [some (.ref 27), some (.int l1), some (.int l2), some (.int l3)], [.int l3, .int l2], i_S X M)) rfl ?_
    by_cases c1 : l2 < l3
    · replace h := (if_pos c1).symm.trans h
      refine i_rbT (c := l2 < l3) (t := 10) (n := 20) rfl c1 ?_
      refine i_rs 3 (cf' := (13, [some (.ref 27), some (.int l1), some (.int l2), some (.int l3)], [.int l1, .int l2, .ref 27], i_S X M)) rfl ?_
      obtain ⟨g2, h⟩ := i_gE h
      refine i_riast (n := 100) (cf' := (14, [some (.ref 27), some (.int l1), some (.int l2), some (.int l3)], [], i_S X (i_wI M 27 (Int32.toNatClampNeg l2) l1))) rfl rfl (Or.inl rfl) g2 rfl ?_
      refine i_rs 2 (cf' := (5, [some (.ref 27), some (.int l1), some (.int (l2 + (1 : Int32))), some (.int l3)], [], i_S X (i_wI M 27 (Int32.toNatClampNeg l2) l1))) rfl ?_
      refine i_fg (lv' := [some (.ref 27), some (.int l1), some (.int (l2 + (1 : Int32))), some (.int l3)]) (And.intro rfl (And.intro rfl (And.intro rfl (And.intro rfl True.intro)))) ?_
      exact hself (l2 + (1 : Int32)) (i_wI M 27 (Int32.toNatClampNeg l2) l1) _ h
    · replace h := (if_neg c1).symm.trans h
      refine i_rbF (c := l2 < l3) (t := 10) (n := 20) rfl c1 ?_
      obtain rfl := Option.some.inj h
      exact i_rret rfl rfl
def j_fillI_27 (l1 : Int32) (M : I_M) : Option I_M :=
  j_fillI_27_L5 l1 (100 : Int32) i_F (0 : Int32) M
theorem ok_j_fillI_27 {X : Nat × (Nat → Int32)} {d : Nat} {l1 : Int32} {M : I_M} {r : I_M} (hd : 1 ≤ d) (h : j_fillI_27 l1 M = some r) : I_Ex d 3 [.ref 27, .int l1] (i_S X M) none (i_S X r) := by
  obtain ⟨d, rfl⟩ : ∃ d1, d = d1 + 1 := ⟨d - 1, by omega⟩
  unfold j_fillI_27 at h
  refine i_ex (e := i_r3) (lv := [some (.ref 27), some (.int l1), none, none]) rfl (Nat.le_of_ble_eq_true rfl) rfl ?_
  show I_RnE (I_Ex d) i_c3 (0, [some (.ref 27), some (.int l1), none, none], [], i_S X M) _ _
  refine i_rs 5 (cf' := (5, [some (.ref 27), some (.int l1), some (.int (0 : Int32)), some (.int (100 : Int32))], [], i_S X M)) rfl ?_
  refine i_fg (lv' := [some (.ref 27), some (.int l1), some (.int (0 : Int32)), some (.int (100 : Int32))]) (And.intro rfl (And.intro rfl (And.intro rfl (And.intro rfl True.intro)))) ?_
  refine ok_j_fillI_27_L5 (by omega) i_F (0 : Int32) M _ h
def b_Search_greatestPart_L13 (l1 : Int32) (l2 : Int32) : Nat → Int32 → Int32 → I_M → Option (Int32 × I_M)
  | 0, _, _, _ => none
  | n + 1, l3, l4, M =>
    (if l4 < (M.1 22 10) then
        i_g l4 250 (i_let (i_abs ((i_rem (M.1 26 (Int32.toNatClampNeg l4)) (10 : Int32)) - l1)) (fun x3 => Option.bind (b_Land_far l2 ((M.1 26 (Int32.toNatClampNeg l4)) / (10 : Int32)) M) (fun q4 => i_g ((((((M.1 26 (Int32.toNatClampNeg l4)) / (10 : Int32)) * (9 : Int32)) + q4.1) * (10 : Int32)) + x3) 2250 (i_let (q4.2.1 25 (Int32.toNatClampNeg ((((((M.1 26 (Int32.toNatClampNeg l4)) / (10 : Int32)) * (9 : Int32)) + q4.1) * (10 : Int32)) + x3))) (fun x6 => i_g x6 100 (i_let (i_max l3 ((i_wI q4.2 27 (Int32.toNatClampNeg x6) ((q4.2.1 27 (Int32.toNatClampNeg x6)) + (1 : Int32))).1 27 (Int32.toNatClampNeg x6))) (fun x8 => (b_Search_greatestPart_L13 l1 l2 n) x8 (l4 + (1 : Int32)) (i_wI q4.2 27 (Int32.toNatClampNeg x6) ((q4.2.1 27 (Int32.toNatClampNeg x6)) + (1 : Int32))))))))))
      else
        some (l3, M))
theorem ok_b_Search_greatestPart_L13 {X : Nat × (Nat → Int32)} {d : Nat} {l1 : Int32} {l2 : Int32} (hd : 2 ≤ d + 1) : ∀ (n : Nat) (l3 : Int32) (l4 : Int32) (M : I_M) (r : (Int32 × I_M)), b_Search_greatestPart_L13 l1 l2 n l3 l4 M = some r → I_RnE (I_Ex d) i_c100 (13, [some (.ref 22), some (.int l1), some (.int l2), some (.int l3), some (.int l4), none, none, none], [], i_S X M) (some (.int r.1)) (i_S X r.2) := by
  intro n
  induction n with
  | zero => intro _ _ M r h; cases h
  | succ n hself =>
    intro l3 l4 M r h
    rw [b_Search_greatestPart_L13] at h
    refine i_rs 3 (cf' := (19, [some (.ref 22), some (.int l1), some (.int l2), some (.int l3), some (.int l4), none, none, none], [.int (M.1 22 10), .int l4], i_S X M)) rfl ?_
    by_cases c1 : l4 < (M.1 22 10)
    · replace h := (if_pos c1).symm.trans h
      refine i_rbT (c := l4 < (M.1 22 10)) (t := 22) (n := 109) rfl c1 ?_
      refine i_rs 3 (cf' := (28, [some (.ref 22), some (.int l1), some (.int l2), some (.int l3), some (.int l4), none, none, none], [.int l4, .ref 26], i_S X M)) rfl ?_
      obtain ⟨g2, h⟩ := i_gE h
      refine i_riald (n := 250) (cf' := (29, [some (.ref 22), some (.int l1), some (.int l2), some (.int l3), some (.int l4), none, none, none], [.int (M.1 26 (Int32.toNatClampNeg l4))], i_S X M)) rfl rfl (by decide) g2 rfl ?_
      refine i_rs 1 (cf' := (31, [some (.ref 22), some (.int l1), some (.int l2), some (.int l3), some (.int l4), none, none, none], [.int (10 : Int32), .int (M.1 26 (Int32.toNatClampNeg l4))], i_S X M)) rfl ?_
      refine i_rdiv (cf' := (32, [some (.ref 22), some (.int l1), some (.int l2), some (.int l3), some (.int l4), none, none, none], [.int ((M.1 26 (Int32.toNatClampNeg l4)) / (10 : Int32))], i_S X M)) rfl (by decide) rfl ?_
      refine i_rs 4 (cf' := (40, [some (.ref 22), some (.int l1), some (.int l2), some (.int l3), some (.int l4), some (.int ((M.1 26 (Int32.toNatClampNeg l4)) / (10 : Int32))), none, none], [.int l4, .ref 26], i_S X M)) rfl ?_
      refine i_riald (n := 250) (cf' := (41, [some (.ref 22), some (.int l1), some (.int l2), some (.int l3), some (.int l4), some (.int ((M.1 26 (Int32.toNatClampNeg l4)) / (10 : Int32))), none, none], [.int (M.1 26 (Int32.toNatClampNeg l4))], i_S X M)) rfl rfl (by decide) g2 rfl ?_
      refine i_rs 1 (cf' := (43, [some (.ref 22), some (.int l1), some (.int l2), some (.int l3), some (.int l4), some (.int ((M.1 26 (Int32.toNatClampNeg l4)) / (10 : Int32))), none, none], [.int (10 : Int32), .int (M.1 26 (Int32.toNatClampNeg l4))], i_S X M)) rfl ?_
      refine i_rrem (cf' := (44, [some (.ref 22), some (.int l1), some (.int l2), some (.int l3), some (.int l4), some (.int ((M.1 26 (Int32.toNatClampNeg l4)) / (10 : Int32))), none, none], [.int (i_rem (M.1 26 (Int32.toNatClampNeg l4)) (10 : Int32))], i_S X M)) rfl (by decide) rfl ?_
      refine i_rs 3 (cf' := (49, [some (.ref 22), some (.int l1), some (.int l2), some (.int l3), some (.int l4), some (.int ((M.1 26 (Int32.toNatClampNeg l4)) / (10 : Int32))), none, none], [.int (i_abs ((i_rem (M.1 26 (Int32.toNatClampNeg l4)) (10 : Int32)) - l1))], i_S X M)) rfl ?_
      obtain ⟨x3, ex3, h⟩ := i_letE h
      refine i_cfe (cf' := (49, [some (.ref 22), some (.int l1), some (.int l2), some (.int l3), some (.int l4), some (.int ((M.1 26 (Int32.toNatClampNeg l4)) / (10 : Int32))), none, none], [.int x3], i_S X M)) (by rw [ex3]) ?_
      refine i_rs 10 (cf' := (67, [some (.ref 22), some (.int l1), some (.int l2), some (.int l3), some (.int l4), some (.int ((M.1 26 (Int32.toNatClampNeg l4)) / (10 : Int32))), some (.int x3), none], [.int ((M.1 26 (Int32.toNatClampNeg l4)) / (10 : Int32)), .int l2, .ref 1, .int (((M.1 26 (Int32.toNatClampNeg l4)) / (10 : Int32)) * (9 : Int32)), .ref 25], i_S X M)) rfl ?_
      obtain ⟨q4, hq4, h⟩ := i_bdE h
      refine i_rcall (k := 67) (as := [.ref 1, .int l2, .int ((M.1 26 (Int32.toNatClampNeg l4)) / (10 : Int32))]) (cf1 := (70, [some (.ref 22), some (.int l1), some (.int l2), some (.int l3), some (.int l4), some (.int ((M.1 26 (Int32.toNatClampNeg l4)) / (10 : Int32))), some (.int x3), none], [.int (((M.1 26 (Int32.toNatClampNeg l4)) / (10 : Int32)) * (9 : Int32)), .ref 25], i_S X M)) (cf' := (70, [some (.ref 22), some (.int l1), some (.int l2), some (.int l3), some (.int l4), some (.int ((M.1 26 (Int32.toNatClampNeg l4)) / (10 : Int32))), some (.int x3), none], [.int q4.1, .int (((M.1 26 (Int32.toNatClampNeg l4)) / (10 : Int32)) * (9 : Int32)), .ref 25], i_S X q4.2)) rfl (ok_b_Land_far (by omega) hq4) rfl ?_
      refine i_rs 5 (cf' := (77, [some (.ref 22), some (.int l1), some (.int l2), some (.int l3), some (.int l4), some (.int ((M.1 26 (Int32.toNatClampNeg l4)) / (10 : Int32))), some (.int x3), none], [.int ((((((M.1 26 (Int32.toNatClampNeg l4)) / (10 : Int32)) * (9 : Int32)) + q4.1) * (10 : Int32)) + x3), .ref 25], i_S X q4.2)) rfl ?_
      obtain ⟨g5, h⟩ := i_gE h
      refine i_riald (n := 2250) (cf' := (78, [some (.ref 22), some (.int l1), some (.int l2), some (.int l3), some (.int l4), some (.int ((M.1 26 (Int32.toNatClampNeg l4)) / (10 : Int32))), some (.int x3), none], [.int (q4.2.1 25 (Int32.toNatClampNeg ((((((M.1 26 (Int32.toNatClampNeg l4)) / (10 : Int32)) * (9 : Int32)) + q4.1) * (10 : Int32)) + x3)))], i_S X q4.2)) rfl rfl (by decide) g5 rfl ?_
      obtain ⟨x6, ex6, h⟩ := i_letE h
      refine i_cfe (cf' := (78, [some (.ref 22), some (.int l1), some (.int l2), some (.int l3), some (.int l4), some (.int ((M.1 26 (Int32.toNatClampNeg l4)) / (10 : Int32))), some (.int x3), none], [.int x6], i_S X q4.2)) (by rw [ex6]) ?_
      refine i_rs 5 (cf' := (87, [some (.ref 22), some (.int l1), some (.int l2), some (.int l3), some (.int l4), some (.int ((M.1 26 (Int32.toNatClampNeg l4)) / (10 : Int32))), some (.int x3), some (.int x6)], [.int x6, .ref 27, .int x6, .ref 27], i_S X q4.2)) rfl ?_
      obtain ⟨g7, h⟩ := i_gE h
      refine i_riald (n := 100) (cf' := (88, [some (.ref 22), some (.int l1), some (.int l2), some (.int l3), some (.int l4), some (.int ((M.1 26 (Int32.toNatClampNeg l4)) / (10 : Int32))), some (.int x3), some (.int x6)], [.int (q4.2.1 27 (Int32.toNatClampNeg x6)), .int x6, .ref 27], i_S X q4.2)) rfl rfl (by decide) g7 rfl ?_
      refine i_rs 2 (cf' := (90, [some (.ref 22), some (.int l1), some (.int l2), some (.int l3), some (.int l4), some (.int ((M.1 26 (Int32.toNatClampNeg l4)) / (10 : Int32))), some (.int x3), some (.int x6)], [.int ((q4.2.1 27 (Int32.toNatClampNeg x6)) + (1 : Int32)), .int x6, .ref 27], i_S X q4.2)) rfl ?_
      refine i_riast (n := 100) (cf' := (91, [some (.ref 22), some (.int l1), some (.int l2), some (.int l3), some (.int l4), some (.int ((M.1 26 (Int32.toNatClampNeg l4)) / (10 : Int32))), some (.int x3), some (.int x6)], [], i_S X (i_wI q4.2 27 (Int32.toNatClampNeg x6) ((q4.2.1 27 (Int32.toNatClampNeg x6)) + (1 : Int32))))) rfl rfl (Or.inl rfl) g7 rfl ?_
      refine i_rs 4 (cf' := (98, [some (.ref 22), some (.int l1), some (.int l2), some (.int l3), some (.int l4), some (.int ((M.1 26 (Int32.toNatClampNeg l4)) / (10 : Int32))), some (.int x3), some (.int x6)], [.int x6, .ref 27, .int l3], i_S X (i_wI q4.2 27 (Int32.toNatClampNeg x6) ((q4.2.1 27 (Int32.toNatClampNeg x6)) + (1 : Int32))))) rfl ?_
      refine i_riald (n := 100) (cf' := (99, [some (.ref 22), some (.int l1), some (.int l2), some (.int l3), some (.int l4), some (.int ((M.1 26 (Int32.toNatClampNeg l4)) / (10 : Int32))), some (.int x3), some (.int x6)], [.int ((i_wI q4.2 27 (Int32.toNatClampNeg x6) ((q4.2.1 27 (Int32.toNatClampNeg x6)) + (1 : Int32))).1 27 (Int32.toNatClampNeg x6)), .int l3], i_S X (i_wI q4.2 27 (Int32.toNatClampNeg x6) ((q4.2.1 27 (Int32.toNatClampNeg x6)) + (1 : Int32))))) rfl rfl (by decide) g7 rfl ?_
      refine i_rs 1 (cf' := (102, [some (.ref 22), some (.int l1), some (.int l2), some (.int l3), some (.int l4), some (.int ((M.1 26 (Int32.toNatClampNeg l4)) / (10 : Int32))), some (.int x3), some (.int x6)], [.int (i_max l3 ((i_wI q4.2 27 (Int32.toNatClampNeg x6) ((q4.2.1 27 (Int32.toNatClampNeg x6)) + (1 : Int32))).1 27 (Int32.toNatClampNeg x6)))], i_S X (i_wI q4.2 27 (Int32.toNatClampNeg x6) ((q4.2.1 27 (Int32.toNatClampNeg x6)) + (1 : Int32))))) rfl ?_
      obtain ⟨x8, ex8, h⟩ := i_letE h
      refine i_cfe (cf' := (102, [some (.ref 22), some (.int l1), some (.int l2), some (.int l3), some (.int l4), some (.int ((M.1 26 (Int32.toNatClampNeg l4)) / (10 : Int32))), some (.int x3), some (.int x6)], [.int x8], i_S X (i_wI q4.2 27 (Int32.toNatClampNeg x6) ((q4.2.1 27 (Int32.toNatClampNeg x6)) + (1 : Int32))))) (by rw [ex8]) ?_
      refine i_rs 3 (cf' := (13, [some (.ref 22), some (.int l1), some (.int l2), some (.int x8), some (.int (l4 + (1 : Int32))), some (.int ((M.1 26 (Int32.toNatClampNeg l4)) / (10 : Int32))), some (.int x3), some (.int x6)], [], i_S X (i_wI q4.2 27 (Int32.toNatClampNeg x6) ((q4.2.1 27 (Int32.toNatClampNeg x6)) + (1 : Int32))))) rfl ?_
      refine i_fg (lv' := [some (.ref 22), some (.int l1), some (.int l2), some (.int x8), some (.int (l4 + (1 : Int32))), none, none, none]) (And.intro rfl (And.intro rfl (And.intro rfl (And.intro rfl (And.intro rfl True.intro))))) ?_
      exact hself x8 (l4 + (1 : Int32)) (i_wI q4.2 27 (Int32.toNatClampNeg x6) ((q4.2.1 27 (Int32.toNatClampNeg x6)) + (1 : Int32))) _ h
    · replace h := (if_neg c1).symm.trans h
      refine i_rbF (c := l4 < (M.1 22 10)) (t := 22) (n := 109) rfl c1 ?_
      refine i_rs 1 (cf' := (110, [some (.ref 22), some (.int l1), some (.int l2), some (.int l3), some (.int l4), none, none, none], [.int l3], i_S X M)) rfl ?_
      obtain rfl := Option.some.inj h
      exact i_rret rfl rfl
def b_Search_greatestPart (l1 : Int32) (l2 : Int32) (M : I_M) : Option (Int32 × I_M) :=
  Option.bind (j_fillI_27 (0 : Int32) M) (fun q9 => b_Search_greatestPart_L13 l1 l2 i_F (0 : Int32) (0 : Int32) q9)
theorem ok_b_Search_greatestPart {X : Nat × (Nat → Int32)} {d : Nat} {l1 : Int32} {l2 : Int32} {M : I_M} {r : (Int32 × I_M)} (hd : 2 ≤ d) (h : b_Search_greatestPart l1 l2 M = some r) : I_Ex d 100 [.ref 22, .int l1, .int l2] (i_S X M) (some (.int r.1)) (i_S X r.2) := by
  obtain ⟨d, rfl⟩ : ∃ d1, d = d1 + 1 := ⟨d - 1, by omega⟩
  unfold b_Search_greatestPart at h
  refine i_ex (e := i_r100) (lv := [some (.ref 22), some (.int l1), some (.int l2), none, none, none, none, none]) rfl (Nat.le_of_ble_eq_true rfl) rfl ?_
  show I_RnE (I_Ex d) i_c100 (0, [some (.ref 22), some (.int l1), some (.int l2), none, none, none, none, none], [], i_S X M) _ _
  refine i_rs 3 (cf' := (5, [some (.ref 22), some (.int l1), some (.int l2), none, none, none, none, none], [.int (0 : Int32), .ref 27], i_S X M)) rfl ?_
  obtain ⟨q9, hq9, h⟩ := i_bdE h
  refine i_rcall (k := 3) (as := [.ref 27, .int (0 : Int32)]) (cf1 := (8, [some (.ref 22), some (.int l1), some (.int l2), none, none, none, none, none], [], i_S X M)) (cf' := (8, [some (.ref 22), some (.int l1), some (.int l2), none, none, none, none, none], [], i_S X q9)) rfl (ok_j_fillI_27 (by omega) hq9) rfl ?_
  refine i_rs 4 (cf' := (13, [some (.ref 22), some (.int l1), some (.int l2), some (.int (0 : Int32)), some (.int (0 : Int32)), none, none, none], [], i_S X q9)) rfl ?_
  refine i_fg (lv' := [some (.ref 22), some (.int l1), some (.int l2), some (.int (0 : Int32)), some (.int (0 : Int32)), none, none, none]) (And.intro rfl (And.intro rfl (And.intro rfl (And.intro rfl (And.intro rfl True.intro))))) ?_
  refine ok_b_Search_greatestPart_L13 (by omega) i_F (0 : Int32) (0 : Int32) q9 _ h
def b_Search_partBest_L28 (l2 : Int32) (k78 : I_M → Option I_M) : Nat → Int32 → I_M → Option I_M
  | 0, _, _ => none
  | n + 1, l3, M =>
    Option.bind (b_Land_cells M) (fun q3 => (if l3 < q3.1 then
        Option.bind (b_Search_greatestPart l2 l3 q3.2) (fun q5 => (if q5.1 < (q5.2.1 22 13) then
          (b_Search_partBest_L28 l2 k78 n) (l3 + (1 : Int32)) (i_wI (i_wI q5.2 22 13 q5.1) 22 12 (((100 : Int32) * l2) + l3))
        else
          (b_Search_partBest_L28 l2 k78 n) (l3 + (1 : Int32)) q5.2))
      else
        k78  q3.2))
theorem ok_b_Search_partBest_L28 {X : Nat × (Nat → Int32)} {d : Nat} {l2 : Int32} {k78 : I_M → Option I_M} (hd : 6 ≤ d + 1) (hk78 : ∀ (M : I_M) (r : I_M), k78 M = some r → I_RnE (I_Ex d) i_c98 (78, [some (.ref 22), none, some (.int l2), none, none], [], i_S X M) none (i_S X r)) : ∀ (n : Nat) (l3 : Int32) (M : I_M) (r : I_M), b_Search_partBest_L28 l2 k78 n l3 M = some r → I_RnE (I_Ex d) i_c98 (28, [some (.ref 22), none, some (.int l2), some (.int l3), none], [], i_S X M) none (i_S X r) := by
  intro n
  induction n with
  | zero => intro _ M r h; cases h
  | succ n hself =>
    intro l3 M r h
    rw [b_Search_partBest_L28] at h
    refine i_rs 3 (cf' := (33, [some (.ref 22), none, some (.int l2), some (.int l3), none], [.ref 1, .int l3], i_S X M)) rfl ?_
    obtain ⟨q3, hq3, h⟩ := i_bdE h
    refine i_rcall (k := 21) (as := [.ref 1]) (cf1 := (36, [some (.ref 22), none, some (.int l2), some (.int l3), none], [.int l3], i_S X M)) (cf' := (36, [some (.ref 22), none, some (.int l2), some (.int l3), none], [.int q3.1, .int l3], i_S X q3.2)) rfl (ok_b_Land_cells (by omega) hq3) rfl ?_
    by_cases c4 : l3 < q3.1
    · replace h := (if_pos c4).symm.trans h
      refine i_rbT (c := l3 < q3.1) (t := 39) (n := 78) rfl c4 ?_
      refine i_rs 3 (cf' := (42, [some (.ref 22), none, some (.int l2), some (.int l3), none], [.int l3, .int l2, .ref 22], i_S X q3.2)) rfl ?_
      obtain ⟨q5, hq5, h⟩ := i_bdE h
      refine i_rcall (k := 100) (as := [.ref 22, .int l2, .int l3]) (cf1 := (45, [some (.ref 22), none, some (.int l2), some (.int l3), none], [], i_S X q3.2)) (cf' := (45, [some (.ref 22), none, some (.int l2), some (.int l3), none], [.int q5.1], i_S X q5.2)) rfl (ok_b_Search_greatestPart (by omega) hq5) rfl ?_
      refine i_rs 4 (cf' := (53, [some (.ref 22), none, some (.int l2), some (.int l3), some (.int q5.1)], [.int (q5.2.1 22 13), .int q5.1], i_S X q5.2)) rfl ?_
      by_cases c6 : q5.1 < (q5.2.1 22 13)
      · replace h := (if_pos c6).symm.trans h
        refine i_rbT (c := q5.1 < (q5.2.1 22 13)) (t := 56) (n := 72) rfl c6 ?_
        refine i_rs 12 (cf' := (28, [some (.ref 22), none, some (.int l2), some (.int (l3 + (1 : Int32))), some (.int q5.1)], [], i_S X (i_wI (i_wI q5.2 22 13 q5.1) 22 12 (((100 : Int32) * l2) + l3)))) rfl ?_
        refine i_fg (lv' := [some (.ref 22), none, some (.int l2), some (.int (l3 + (1 : Int32))), none]) (And.intro rfl (And.intro rfl (And.intro rfl True.intro))) ?_
        exact hself (l3 + (1 : Int32)) (i_wI (i_wI q5.2 22 13 q5.1) 22 12 (((100 : Int32) * l2) + l3)) _ h
      · replace h := (if_neg c6).symm.trans h
        refine i_rbF (c := q5.1 < (q5.2.1 22 13)) (t := 56) (n := 72) rfl c6 ?_
        refine i_rs 2 (cf' := (28, [some (.ref 22), none, some (.int l2), some (.int (l3 + (1 : Int32))), some (.int q5.1)], [], i_S X q5.2)) rfl ?_
        refine i_fg (lv' := [some (.ref 22), none, some (.int l2), some (.int (l3 + (1 : Int32))), none]) (And.intro rfl (And.intro rfl (And.intro rfl True.intro))) ?_
        exact hself (l3 + (1 : Int32)) q5.2 _ h
    · replace h := (if_neg c4).symm.trans h
      refine i_rbF (c := l3 < q3.1) (t := 39) (n := 78) rfl c4 ?_
      refine i_fg (lv' := [some (.ref 22), none, some (.int l2), none, none]) (And.intro rfl (And.intro rfl True.intro)) ?_
      exact hk78  q3.2 _ h
def b_Search_partBest_L20 : Nat → Int32 → I_M → Option I_M
  | 0, _, _ => none
  | n + 1, l2, M =>
    (if l2 < (10 : Int32) then
        b_Search_partBest_L28 l2 (fun M2 =>
            (b_Search_partBest_L20 n) (l2 + (1 : Int32)) M2) i_F (0 : Int32) M
      else
        some M)
theorem ok_b_Search_partBest_L20 {X : Nat × (Nat → Int32)} {d : Nat} (hd : 6 ≤ d + 1) : ∀ (n : Nat) (l2 : Int32) (M : I_M) (r : I_M), b_Search_partBest_L20 n l2 M = some r → I_RnE (I_Ex d) i_c98 (20, [some (.ref 22), none, some (.int l2), none, none], [], i_S X M) none (i_S X r) := by
  intro n
  induction n with
  | zero => intro _ M r h; cases h
  | succ n hself =>
    intro l2 M r h
    rw [b_Search_partBest_L20] at h
    refine i_rs 2 (cf' := (23, [some (.ref 22), none, some (.int l2), none, none], [.int (10 : Int32), .int l2], i_S X M)) rfl ?_
    by_cases c1 : l2 < (10 : Int32)
    · replace h := (if_pos c1).symm.trans h
      refine i_rbT (c := l2 < (10 : Int32)) (t := 26) (n := 84) rfl c1 ?_
      refine i_rs 2 (cf' := (28, [some (.ref 22), none, some (.int l2), some (.int (0 : Int32)), none], [], i_S X M)) rfl ?_
      refine i_fg (lv' := [some (.ref 22), none, some (.int l2), some (.int (0 : Int32)), none]) (And.intro rfl (And.intro rfl (And.intro rfl True.intro))) ?_
      refine ok_b_Search_partBest_L28 (by omega) (fun M2 r h => ?_) i_F (0 : Int32) M _ h
      refine i_rs 2 (cf' := (20, [some (.ref 22), none, some (.int (l2 + (1 : Int32))), none, none], [], i_S X M2)) rfl ?_
      refine i_fg (lv' := [some (.ref 22), none, some (.int (l2 + (1 : Int32))), none, none]) (And.intro rfl (And.intro rfl True.intro)) ?_
      exact hself (l2 + (1 : Int32)) M2 _ h
    · replace h := (if_neg c1).symm.trans h
      refine i_rbF (c := l2 < (10 : Int32)) (t := 26) (n := 84) rfl c1 ?_
      obtain rfl := Option.some.inj h
      exact i_rret rfl rfl
def b_Search_partBest (l1 : Int32) (M : I_M) : Option I_M :=
  Option.bind (b_Search_tellHeardBy l1 M) (fun q7 => b_Search_partBest_L20 i_F (0 : Int32) (i_wI (i_wI q7 22 12 (-2 : Int32)) 22 13 (251 : Int32)))
theorem ok_b_Search_partBest {X : Nat × (Nat → Int32)} {d : Nat} {l1 : Int32} {M : I_M} {r : I_M} (hd : 6 ≤ d) (h : b_Search_partBest l1 M = some r) : I_Ex d 98 [.ref 22, .int l1] (i_S X M) none (i_S X r) := by
  obtain ⟨d, rfl⟩ : ∃ d1, d = d1 + 1 := ⟨d - 1, by omega⟩
  unfold b_Search_partBest at h
  refine i_ex (e := i_r98) (lv := [some (.ref 22), some (.int l1), none, none, none]) rfl (Nat.le_of_ble_eq_true rfl) rfl ?_
  show I_RnE (I_Ex d) i_c98 (0, [some (.ref 22), some (.int l1), none, none, none], [], i_S X M) _ _
  refine i_rs 2 (cf' := (2, [some (.ref 22), some (.int l1), none, none, none], [.int l1, .ref 22], i_S X M)) rfl ?_
  obtain ⟨q7, hq7, h⟩ := i_bdE h
  refine i_rcall (k := 99) (as := [.ref 22, .int l1]) (cf1 := (5, [some (.ref 22), some (.int l1), none, none, none], [], i_S X M)) (cf' := (5, [some (.ref 22), some (.int l1), none, none, none], [], i_S X q7)) rfl (ok_b_Search_tellHeardBy (by omega) hq7) rfl ?_
  refine i_rs 8 (cf' := (20, [some (.ref 22), some (.int l1), some (.int (0 : Int32)), none, none], [], i_S X (i_wI (i_wI q7 22 12 (-2 : Int32)) 22 13 (251 : Int32)))) rfl ?_
  refine i_fg (lv' := [some (.ref 22), none, some (.int (0 : Int32)), none, none]) (And.intro rfl (And.intro rfl True.intro)) ?_
  refine ok_b_Search_partBest_L20 (by omega) i_F (0 : Int32) (i_wI (i_wI q7 22 12 (-2 : Int32)) 22 13 (251 : Int32)) _ h
def b_next (l1 : Int32) (l2 : Int32) (M : I_M) : Option (Int32 × I_M) :=
  Option.bind (b_Land_has l1 M) (fun q1 => (if q1.1 = (0 : Int32) then
      some ((-1 : Int32), q1.2)
    else
      (if l2 < (0 : Int32) then
        some ((-1 : Int32), q1.2)
      else
        (if (1 : Int32) < l2 then
          some ((-1 : Int32), q1.2)
        else
          Option.bind (b_Search_gatherFitting q1.2) (fun q5 => (if (q5.1 22 10) = (0 : Int32) then
            some ((-2 : Int32), q5)
          else
            Option.bind (b_Search_partBest l1 q5) (fun q7 => (if l2 = (0 : Int32) then
              some ((q7.1 22 12), q7)
            else
              some ((q7.1 22 13), q7)))))))))
theorem ok_b_next {X : Nat × (Nat → Int32)} {d : Nat} {l1 : Int32} {l2 : Int32} {M : I_M} {r : (Int32 × I_M)} (hd : 7 ≤ d) (h : b_next l1 l2 M = some r) : I_Ex d 96 [.ref 0, .int l1, .int l2] (i_S X M) (some (.int r.1)) (i_S X r.2) := by
  obtain ⟨d, rfl⟩ : ∃ d1, d = d1 + 1 := ⟨d - 1, by omega⟩
  unfold b_next at h
  refine i_ex (e := i_r96) (lv := [some (.ref 0), some (.int l1), some (.int l2)]) rfl (Nat.le_of_ble_eq_true rfl) rfl ?_
  show I_RnE (I_Ex d) i_c96 (0, [some (.ref 0), some (.int l1), some (.int l2)], [], i_S X M) _ _
  refine i_rs 3 (cf' := (5, [some (.ref 0), some (.int l1), some (.int l2)], [.int l1, .ref 1], i_S X M)) rfl ?_
  obtain ⟨q1, hq1, h⟩ := i_bdE h
  refine i_rcall (k := 20) (as := [.ref 1, .int l1]) (cf1 := (8, [some (.ref 0), some (.int l1), some (.int l2)], [], i_S X M)) (cf' := (8, [some (.ref 0), some (.int l1), some (.int l2)], [.int q1.1], i_S X q1.2)) rfl (ok_b_Land_has (by omega) hq1) rfl ?_
  by_cases c2 : q1.1 = (0 : Int32)
  · replace h := (if_pos c2).symm.trans h
    refine i_rbT (c := q1.1 = (0 : Int32)) (t := 20) (n := 11) rfl c2 ?_
    refine i_rs 1 (cf' := (21, [some (.ref 0), some (.int l1), some (.int l2)], [.int (-1 : Int32)], i_S X q1.2)) rfl ?_
    obtain rfl := Option.some.inj h
    exact i_rret rfl rfl
  · replace h := (if_neg c2).symm.trans h
    refine i_rbF (c := q1.1 = (0 : Int32)) (t := 20) (n := 11) rfl c2 ?_
    refine i_rs 1 (cf' := (12, [some (.ref 0), some (.int l1), some (.int l2)], [.int l2], i_S X q1.2)) rfl ?_
    by_cases c3 : l2 < (0 : Int32)
    · replace h := (if_pos c3).symm.trans h
      refine i_rbT (c := l2 < (0 : Int32)) (t := 20) (n := 15) rfl c3 ?_
      refine i_rs 1 (cf' := (21, [some (.ref 0), some (.int l1), some (.int l2)], [.int (-1 : Int32)], i_S X q1.2)) rfl ?_
      obtain rfl := Option.some.inj h
      exact i_rret rfl rfl
    · replace h := (if_neg c3).symm.trans h
      refine i_rbF (c := l2 < (0 : Int32)) (t := 20) (n := 15) rfl c3 ?_
      refine i_rs 2 (cf' := (17, [some (.ref 0), some (.int l1), some (.int l2)], [.int (1 : Int32), .int l2], i_S X q1.2)) rfl ?_
      by_cases c4 : (1 : Int32) < l2
      · replace h := (if_pos c4).symm.trans h
        refine i_rbT (c := (1 : Int32) < l2) (t := 20) (n := 22) rfl c4 ?_
        refine i_rs 1 (cf' := (21, [some (.ref 0), some (.int l1), some (.int l2)], [.int (-1 : Int32)], i_S X q1.2)) rfl ?_
        obtain rfl := Option.some.inj h
        exact i_rret rfl rfl
      · replace h := (if_neg c4).symm.trans h
        refine i_rbF (c := (1 : Int32) < l2) (t := 20) (n := 22) rfl c4 ?_
        refine i_rs 2 (cf' := (26, [some (.ref 0), some (.int l1), some (.int l2)], [.ref 22], i_S X q1.2)) rfl ?_
        obtain ⟨q5, hq5, h⟩ := i_bdE h
        refine i_rcall (k := 97) (as := [.ref 22]) (cf1 := (29, [some (.ref 0), some (.int l1), some (.int l2)], [], i_S X q1.2)) (cf' := (29, [some (.ref 0), some (.int l1), some (.int l2)], [], i_S X q5)) rfl (ok_b_Search_gatherFitting (by omega) hq5) rfl ?_
        refine i_rs 3 (cf' := (36, [some (.ref 0), some (.int l1), some (.int l2)], [.int (q5.1 22 10)], i_S X q5)) rfl ?_
        by_cases c6 : (q5.1 22 10) = (0 : Int32)
        · replace h := (if_pos c6).symm.trans h
          refine i_rbT (c := (q5.1 22 10) = (0 : Int32)) (t := 39) (n := 42) rfl c6 ?_
          refine i_rs 1 (cf' := (41, [some (.ref 0), some (.int l1), some (.int l2)], [.int (-2 : Int32)], i_S X q5)) rfl ?_
          obtain rfl := Option.some.inj h
          exact i_rret rfl rfl
        · replace h := (if_neg c6).symm.trans h
          refine i_rbF (c := (q5.1 22 10) = (0 : Int32)) (t := 39) (n := 42) rfl c6 ?_
          refine i_rs 3 (cf' := (47, [some (.ref 0), some (.int l1), some (.int l2)], [.int l1, .ref 22], i_S X q5)) rfl ?_
          obtain ⟨q7, hq7, h⟩ := i_bdE h
          refine i_rcall (k := 98) (as := [.ref 22, .int l1]) (cf1 := (50, [some (.ref 0), some (.int l1), some (.int l2)], [], i_S X q5)) (cf' := (50, [some (.ref 0), some (.int l1), some (.int l2)], [], i_S X q7)) rfl (ok_b_Search_partBest (by omega) hq7) rfl ?_
          refine i_rs 1 (cf' := (51, [some (.ref 0), some (.int l1), some (.int l2)], [.int l2], i_S X q7)) rfl ?_
          by_cases c8 : l2 = (0 : Int32)
          · replace h := (if_pos c8).symm.trans h
            refine i_rbT (c := l2 = (0 : Int32)) (t := 54) (n := 64) rfl c8 ?_
            refine i_rs 4 (cf' := (71, [some (.ref 0), some (.int l1), some (.int l2)], [.int (q7.1 22 12)], i_S X q7)) rfl ?_
            obtain rfl := Option.some.inj h
            exact i_rret rfl rfl
          · replace h := (if_neg c8).symm.trans h
            refine i_rbF (c := l2 = (0 : Int32)) (t := 54) (n := 64) rfl c8 ?_
            refine i_rs 3 (cf' := (71, [some (.ref 0), some (.int l1), some (.int l2)], [.int (q7.1 22 13)], i_S X q7)) rfl ?_
            obtain rfl := Option.some.inj h
            exact i_rret rfl rfl
def r_greatestPart_L26 (l1 : Int32) (l2 : Int32) : Nat → Int32 → Int32 → I_M → Option (Int32 × I_M)
  | 0, _, _, _ => none
  | n + 1, l3, l4, M =>
    Option.bind (r_cells M) (fun q1 => (if l4 < ((10 : Int32) * q1.1) then
        i_g l4 250 ((if (q1.2.1 64 (Int32.toNatClampNeg l4)) = (0 : Int32) then
          (r_greatestPart_L26 l1 l2 n) l3 (l4 + (1 : Int32)) q1.2
        else
          Option.bind (r_humOf (l4 / (10 : Int32)) (i_rem l4 (10 : Int32)) (q1.2.1 51 59) (l1 / (100 : Int32)) (i_rem l1 (100 : Int32)) l2 q1.2) (fun q5 => Option.bind (r_heardOf q5.1 q5.2) (fun q6 => i_g q6.1 100 ((if l3 < ((i_wI q6.2 65 (Int32.toNatClampNeg q6.1) ((q6.2.1 65 (Int32.toNatClampNeg q6.1)) + (1 : Int32))).1 65 (Int32.toNatClampNeg q6.1)) then
            i_let ((i_wI q6.2 65 (Int32.toNatClampNeg q6.1) ((q6.2.1 65 (Int32.toNatClampNeg q6.1)) + (1 : Int32))).1 65 (Int32.toNatClampNeg q6.1)) (fun x9 => (r_greatestPart_L26 l1 l2 n) x9 (l4 + (1 : Int32)) (i_wI q6.2 65 (Int32.toNatClampNeg q6.1) ((q6.2.1 65 (Int32.toNatClampNeg q6.1)) + (1 : Int32))))
          else
            (r_greatestPart_L26 l1 l2 n) l3 (l4 + (1 : Int32)) (i_wI q6.2 65 (Int32.toNatClampNeg q6.1) ((q6.2.1 65 (Int32.toNatClampNeg q6.1)) + (1 : Int32)))))))))
      else
        some (l3, q1.2)))
theorem ok_r_greatestPart_L26 {X : Nat × (Nat → Int32)} {d : Nat} {l1 : Int32} {l2 : Int32} (hd : 68 ≤ d + 1) : ∀ (n : Nat) (l3 : Int32) (l4 : Int32) (M : I_M) (r : (Int32 × I_M)), r_greatestPart_L26 l1 l2 n l3 l4 M = some r → I_RnE (I_Ex d) i_c224 (26, [some (.ref 50), some (.int l1), some (.int l2), some (.int l3), some (.int l4), none], [], i_S X M) (some (.int r.1)) (i_S X r.2) := by
  intro n
  induction n with
  | zero => intro _ _ M r h; cases h
  | succ n hself =>
    intro l3 l4 M r h
    rw [r_greatestPart_L26] at h
    refine i_rs 3 (cf' := (31, [some (.ref 50), some (.int l1), some (.int l2), some (.int l3), some (.int l4), none], [.ref 50, .int (10 : Int32), .int l4], i_S X M)) rfl ?_
    obtain ⟨q1, hq1, h⟩ := i_bdE h
    refine i_rcall (k := 178) (as := [.ref 50]) (cf1 := (34, [some (.ref 50), some (.int l1), some (.int l2), some (.int l3), some (.int l4), none], [.int (10 : Int32), .int l4], i_S X M)) (cf' := (34, [some (.ref 50), some (.int l1), some (.int l2), some (.int l3), some (.int l4), none], [.int q1.1, .int (10 : Int32), .int l4], i_S X q1.2)) rfl (ok_r_cells (by omega) hq1) rfl ?_
    refine i_rs 1 (cf' := (35, [some (.ref 50), some (.int l1), some (.int l2), some (.int l3), some (.int l4), none], [.int ((10 : Int32) * q1.1), .int l4], i_S X q1.2)) rfl ?_
    by_cases c2 : l4 < ((10 : Int32) * q1.1)
    · replace h := (if_pos c2).symm.trans h
      refine i_rbT (c := l4 < ((10 : Int32) * q1.1)) (t := 38) (n := 124) rfl c2 ?_
      refine i_rs 3 (cf' := (44, [some (.ref 50), some (.int l1), some (.int l2), some (.int l3), some (.int l4), none], [.int l4, .ref 64], i_S X q1.2)) rfl ?_
      obtain ⟨g3, h⟩ := i_gE h
      refine i_rbald (n := 250) (cf' := (45, [some (.ref 50), some (.int l1), some (.int l2), some (.int l3), some (.int l4), none], [.int (q1.2.1 64 (Int32.toNatClampNeg l4))], i_S X q1.2)) rfl rfl (by decide) g3 rfl ?_
      by_cases c4 : (q1.2.1 64 (Int32.toNatClampNeg l4)) = (0 : Int32)
      · replace h := (if_pos c4).symm.trans h
        refine i_rbT (c := (q1.2.1 64 (Int32.toNatClampNeg l4)) = (0 : Int32)) (t := 118) (n := 48) rfl c4 ?_
        refine i_rs 2 (cf' := (26, [some (.ref 50), some (.int l1), some (.int l2), some (.int l3), some (.int (l4 + (1 : Int32))), none], [], i_S X q1.2)) rfl ?_
        refine i_fg (lv' := [some (.ref 50), some (.int l1), some (.int l2), some (.int l3), some (.int (l4 + (1 : Int32))), none]) (And.intro rfl (And.intro rfl (And.intro rfl (And.intro rfl (And.intro rfl True.intro))))) ?_
        exact hself l3 (l4 + (1 : Int32)) q1.2 _ h
      · replace h := (if_neg c4).symm.trans h
        refine i_rbF (c := (q1.2.1 64 (Int32.toNatClampNeg l4)) = (0 : Int32)) (t := 118) (n := 48) rfl c4 ?_
        refine i_rs 4 (cf' := (54, [some (.ref 50), some (.int l1), some (.int l2), some (.int l3), some (.int l4), none], [.int (10 : Int32), .int l4, .ref 50, .ref 50], i_S X q1.2)) rfl ?_
        refine i_rdiv (cf' := (55, [some (.ref 50), some (.int l1), some (.int l2), some (.int l3), some (.int l4), none], [.int (l4 / (10 : Int32)), .ref 50, .ref 50], i_S X q1.2)) rfl (by decide) rfl ?_
        refine i_rs 2 (cf' := (59, [some (.ref 50), some (.int l1), some (.int l2), some (.int l3), some (.int l4), none], [.int (10 : Int32), .int l4, .int (l4 / (10 : Int32)), .ref 50, .ref 50], i_S X q1.2)) rfl ?_
        refine i_rrem (cf' := (60, [some (.ref 50), some (.int l1), some (.int l2), some (.int l3), some (.int l4), none], [.int (i_rem l4 (10 : Int32)), .int (l4 / (10 : Int32)), .ref 50, .ref 50], i_S X q1.2)) rfl (by decide) rfl ?_
        refine i_rs 3 (cf' := (66, [some (.ref 50), some (.int l1), some (.int l2), some (.int l3), some (.int l4), none], [.int (59 : Int32), .ref 51, .int (i_rem l4 (10 : Int32)), .int (l4 / (10 : Int32)), .ref 50, .ref 50], i_S X q1.2)) rfl ?_
        refine i_riald (n := 60) (cf' := (67, [some (.ref 50), some (.int l1), some (.int l2), some (.int l3), some (.int l4), none], [.int (q1.2.1 51 59), .int (i_rem l4 (10 : Int32)), .int (l4 / (10 : Int32)), .ref 50, .ref 50], i_S X q1.2)) rfl rfl (by decide) (by decide) rfl ?_
        refine i_rs 2 (cf' := (70, [some (.ref 50), some (.int l1), some (.int l2), some (.int l3), some (.int l4), none], [.int (100 : Int32), .int l1, .int (q1.2.1 51 59), .int (i_rem l4 (10 : Int32)), .int (l4 / (10 : Int32)), .ref 50, .ref 50], i_S X q1.2)) rfl ?_
        refine i_rdiv (cf' := (71, [some (.ref 50), some (.int l1), some (.int l2), some (.int l3), some (.int l4), none], [.int (l1 / (100 : Int32)), .int (q1.2.1 51 59), .int (i_rem l4 (10 : Int32)), .int (l4 / (10 : Int32)), .ref 50, .ref 50], i_S X q1.2)) rfl (by decide) rfl ?_
        refine i_rs 2 (cf' := (74, [some (.ref 50), some (.int l1), some (.int l2), some (.int l3), some (.int l4), none], [.int (100 : Int32), .int l1, .int (l1 / (100 : Int32)), .int (q1.2.1 51 59), .int (i_rem l4 (10 : Int32)), .int (l4 / (10 : Int32)), .ref 50, .ref 50], i_S X q1.2)) rfl ?_
        refine i_rrem (cf' := (75, [some (.ref 50), some (.int l1), some (.int l2), some (.int l3), some (.int l4), none], [.int (i_rem l1 (100 : Int32)), .int (l1 / (100 : Int32)), .int (q1.2.1 51 59), .int (i_rem l4 (10 : Int32)), .int (l4 / (10 : Int32)), .ref 50, .ref 50], i_S X q1.2)) rfl (by decide) rfl ?_
        refine i_rs 1 (cf' := (76, [some (.ref 50), some (.int l1), some (.int l2), some (.int l3), some (.int l4), none], [.int l2, .int (i_rem l1 (100 : Int32)), .int (l1 / (100 : Int32)), .int (q1.2.1 51 59), .int (i_rem l4 (10 : Int32)), .int (l4 / (10 : Int32)), .ref 50, .ref 50], i_S X q1.2)) rfl ?_
        obtain ⟨q5, hq5, h⟩ := i_bdE h
        refine i_rcall (k := 205) (as := [.ref 50, .int (l4 / (10 : Int32)), .int (i_rem l4 (10 : Int32)), .int (q1.2.1 51 59), .int (l1 / (100 : Int32)), .int (i_rem l1 (100 : Int32)), .int l2]) (cf1 := (79, [some (.ref 50), some (.int l1), some (.int l2), some (.int l3), some (.int l4), none], [.ref 50], i_S X q1.2)) (cf' := (79, [some (.ref 50), some (.int l1), some (.int l2), some (.int l3), some (.int l4), none], [.int q5.1, .ref 50], i_S X q5.2)) rfl (ok_r_humOf (by omega) hq5) rfl ?_
        obtain ⟨q6, hq6, h⟩ := i_bdE h
        refine i_rcall (k := 209) (as := [.ref 50, .int q5.1]) (cf1 := (82, [some (.ref 50), some (.int l1), some (.int l2), some (.int l3), some (.int l4), none], [], i_S X q5.2)) (cf' := (82, [some (.ref 50), some (.int l1), some (.int l2), some (.int l3), some (.int l4), none], [.int q6.1], i_S X q6.2)) rfl (ok_r_heardOf (by omega) hq6) rfl ?_
        refine i_rs 5 (cf' := (91, [some (.ref 50), some (.int l1), some (.int l2), some (.int l3), some (.int l4), some (.int q6.1)], [.int q6.1, .ref 65, .int q6.1, .ref 65], i_S X q6.2)) rfl ?_
        obtain ⟨g7, h⟩ := i_gE h
        refine i_riald (n := 100) (cf' := (92, [some (.ref 50), some (.int l1), some (.int l2), some (.int l3), some (.int l4), some (.int q6.1)], [.int (q6.2.1 65 (Int32.toNatClampNeg q6.1)), .int q6.1, .ref 65], i_S X q6.2)) rfl rfl (by decide) g7 rfl ?_
        refine i_rs 2 (cf' := (94, [some (.ref 50), some (.int l1), some (.int l2), some (.int l3), some (.int l4), some (.int q6.1)], [.int ((q6.2.1 65 (Int32.toNatClampNeg q6.1)) + (1 : Int32)), .int q6.1, .ref 65], i_S X q6.2)) rfl ?_
        refine i_riast (n := 100) (cf' := (95, [some (.ref 50), some (.int l1), some (.int l2), some (.int l3), some (.int l4), some (.int q6.1)], [], i_S X (i_wI q6.2 65 (Int32.toNatClampNeg q6.1) ((q6.2.1 65 (Int32.toNatClampNeg q6.1)) + (1 : Int32))))) rfl rfl (Or.inl rfl) g7 rfl ?_
        refine i_rs 3 (cf' := (101, [some (.ref 50), some (.int l1), some (.int l2), some (.int l3), some (.int l4), some (.int q6.1)], [.int q6.1, .ref 65], i_S X (i_wI q6.2 65 (Int32.toNatClampNeg q6.1) ((q6.2.1 65 (Int32.toNatClampNeg q6.1)) + (1 : Int32))))) rfl ?_
        refine i_riald (n := 100) (cf' := (102, [some (.ref 50), some (.int l1), some (.int l2), some (.int l3), some (.int l4), some (.int q6.1)], [.int ((i_wI q6.2 65 (Int32.toNatClampNeg q6.1) ((q6.2.1 65 (Int32.toNatClampNeg q6.1)) + (1 : Int32))).1 65 (Int32.toNatClampNeg q6.1))], i_S X (i_wI q6.2 65 (Int32.toNatClampNeg q6.1) ((q6.2.1 65 (Int32.toNatClampNeg q6.1)) + (1 : Int32))))) rfl rfl (by decide) g7 rfl ?_
        refine i_rs 1 (cf' := (103, [some (.ref 50), some (.int l1), some (.int l2), some (.int l3), some (.int l4), some (.int q6.1)], [.int l3, .int ((i_wI q6.2 65 (Int32.toNatClampNeg q6.1) ((q6.2.1 65 (Int32.toNatClampNeg q6.1)) + (1 : Int32))).1 65 (Int32.toNatClampNeg q6.1))], i_S X (i_wI q6.2 65 (Int32.toNatClampNeg q6.1) ((q6.2.1 65 (Int32.toNatClampNeg q6.1)) + (1 : Int32))))) rfl ?_
        by_cases c8 : l3 < ((i_wI q6.2 65 (Int32.toNatClampNeg q6.1) ((q6.2.1 65 (Int32.toNatClampNeg q6.1)) + (1 : Int32))).1 65 (Int32.toNatClampNeg q6.1))
        · replace h := (if_pos c8).symm.trans h
          refine i_rbT (c := l3 < ((i_wI q6.2 65 (Int32.toNatClampNeg q6.1) ((q6.2.1 65 (Int32.toNatClampNeg q6.1)) + (1 : Int32))).1 65 (Int32.toNatClampNeg q6.1))) (t := 106) (n := 116) rfl c8 ?_
          refine i_rs 3 (cf' := (112, [some (.ref 50), some (.int l1), some (.int l2), some (.int l3), some (.int l4), some (.int q6.1)], [.int q6.1, .ref 65], i_S X (i_wI q6.2 65 (Int32.toNatClampNeg q6.1) ((q6.2.1 65 (Int32.toNatClampNeg q6.1)) + (1 : Int32))))) rfl ?_
          refine i_riald (n := 100) (cf' := (113, [some (.ref 50), some (.int l1), some (.int l2), some (.int l3), some (.int l4), some (.int q6.1)], [.int ((i_wI q6.2 65 (Int32.toNatClampNeg q6.1) ((q6.2.1 65 (Int32.toNatClampNeg q6.1)) + (1 : Int32))).1 65 (Int32.toNatClampNeg q6.1))], i_S X (i_wI q6.2 65 (Int32.toNatClampNeg q6.1) ((q6.2.1 65 (Int32.toNatClampNeg q6.1)) + (1 : Int32))))) rfl rfl (by decide) g7 rfl ?_
          refine i_rs 1 (cf' := (117, [some (.ref 50), some (.int l1), some (.int l2), some (.int l3), some (.int l4), some (.int q6.1)], [.int ((i_wI q6.2 65 (Int32.toNatClampNeg q6.1) ((q6.2.1 65 (Int32.toNatClampNeg q6.1)) + (1 : Int32))).1 65 (Int32.toNatClampNeg q6.1))], i_S X (i_wI q6.2 65 (Int32.toNatClampNeg q6.1) ((q6.2.1 65 (Int32.toNatClampNeg q6.1)) + (1 : Int32))))) rfl ?_
          obtain ⟨x9, ex9, h⟩ := i_letE h
          refine i_cfe (cf' := (117, [some (.ref 50), some (.int l1), some (.int l2), some (.int l3), some (.int l4), some (.int q6.1)], [.int x9], i_S X (i_wI q6.2 65 (Int32.toNatClampNeg q6.1) ((q6.2.1 65 (Int32.toNatClampNeg q6.1)) + (1 : Int32))))) (by rw [ex9]) ?_
          refine i_rs 3 (cf' := (26, [some (.ref 50), some (.int l1), some (.int l2), some (.int x9), some (.int (l4 + (1 : Int32))), some (.int q6.1)], [], i_S X (i_wI q6.2 65 (Int32.toNatClampNeg q6.1) ((q6.2.1 65 (Int32.toNatClampNeg q6.1)) + (1 : Int32))))) rfl ?_
          refine i_fg (lv' := [some (.ref 50), some (.int l1), some (.int l2), some (.int x9), some (.int (l4 + (1 : Int32))), none]) (And.intro rfl (And.intro rfl (And.intro rfl (And.intro rfl (And.intro rfl True.intro))))) ?_
          exact hself x9 (l4 + (1 : Int32)) (i_wI q6.2 65 (Int32.toNatClampNeg q6.1) ((q6.2.1 65 (Int32.toNatClampNeg q6.1)) + (1 : Int32))) _ h
        · replace h := (if_neg c8).symm.trans h
          refine i_rbF (c := l3 < ((i_wI q6.2 65 (Int32.toNatClampNeg q6.1) ((q6.2.1 65 (Int32.toNatClampNeg q6.1)) + (1 : Int32))).1 65 (Int32.toNatClampNeg q6.1))) (t := 106) (n := 116) rfl c8 ?_
          refine i_rs 4 (cf' := (26, [some (.ref 50), some (.int l1), some (.int l2), some (.int l3), some (.int (l4 + (1 : Int32))), some (.int q6.1)], [], i_S X (i_wI q6.2 65 (Int32.toNatClampNeg q6.1) ((q6.2.1 65 (Int32.toNatClampNeg q6.1)) + (1 : Int32))))) rfl ?_
          refine i_fg (lv' := [some (.ref 50), some (.int l1), some (.int l2), some (.int l3), some (.int (l4 + (1 : Int32))), none]) (And.intro rfl (And.intro rfl (And.intro rfl (And.intro rfl (And.intro rfl True.intro))))) ?_
          exact hself l3 (l4 + (1 : Int32)) (i_wI q6.2 65 (Int32.toNatClampNeg q6.1) ((q6.2.1 65 (Int32.toNatClampNeg q6.1)) + (1 : Int32))) _ h
    · replace h := (if_neg c2).symm.trans h
      refine i_rbF (c := l4 < ((10 : Int32) * q1.1)) (t := 38) (n := 124) rfl c2 ?_
      refine i_rs 1 (cf' := (125, [some (.ref 50), some (.int l1), some (.int l2), some (.int l3), some (.int l4), none], [.int l3], i_S X q1.2)) rfl ?_
      obtain rfl := Option.some.inj h
      exact i_rret rfl rfl
def r_greatestPart_L2 (l1 : Int32) (l2 : Int32) (k21 : I_M → Option (Int32 × I_M)) : Nat → Int32 → I_M → Option (Int32 × I_M)
  | 0, _, _ => none
  | n + 1, l3, M =>
    (if (99 : Int32) < l3 then
        k21  M
      else
        i_g l3 100 ((r_greatestPart_L2 l1 l2 k21 n) (l3 + (1 : Int32)) (i_wI M 65 (Int32.toNatClampNeg l3) (0 : Int32))))
theorem ok_r_greatestPart_L2 {X : Nat × (Nat → Int32)} {d : Nat} {l1 : Int32} {l2 : Int32} {k21 : I_M → Option (Int32 × I_M)} (hd : 68 ≤ d + 1) (hk21 : ∀ (M : I_M) (r : (Int32 × I_M)), k21 M = some r → I_RnE (I_Ex d) i_c224 (21, [some (.ref 50), some (.int l1), some (.int l2), none, none, none], [], i_S X M) (some (.int r.1)) (i_S X r.2)) : ∀ (n : Nat) (l3 : Int32) (M : I_M) (r : (Int32 × I_M)), r_greatestPart_L2 l1 l2 k21 n l3 M = some r → I_RnE (I_Ex d) i_c224 (2, [some (.ref 50), some (.int l1), some (.int l2), some (.int l3), none, none], [], i_S X M) (some (.int r.1)) (i_S X r.2) := by
  intro n
  induction n with
  | zero => intro _ M r h; cases h
  | succ n hself =>
    intro l3 M r h
    rw [r_greatestPart_L2] at h
    refine i_rs 2 (cf' := (5, [some (.ref 50), some (.int l1), some (.int l2), some (.int l3), none, none], [.int (99 : Int32), .int l3], i_S X M)) rfl ?_
    by_cases c10 : (99 : Int32) < l3
    · replace h := (if_pos c10).symm.trans h
      refine i_rbT (c := (99 : Int32) < l3) (t := 21) (n := 8) rfl c10 ?_
      refine i_fg (lv' := [some (.ref 50), some (.int l1), some (.int l2), none, none, none]) (And.intro rfl (And.intro rfl (And.intro rfl True.intro))) ?_
      exact hk21  M _ h
    · replace h := (if_neg c10).symm.trans h
      refine i_rbF (c := (99 : Int32) < l3) (t := 21) (n := 8) rfl c10 ?_
      refine i_rs 4 (cf' := (14, [some (.ref 50), some (.int l1), some (.int l2), some (.int l3), none, none], [.int (0 : Int32), .int l3, .ref 65], i_S X M)) rfl ?_
      obtain ⟨g11, h⟩ := i_gE h
      refine i_riast (n := 100) (cf' := (15, [some (.ref 50), some (.int l1), some (.int l2), some (.int l3), none, none], [], i_S X (i_wI M 65 (Int32.toNatClampNeg l3) (0 : Int32)))) rfl rfl (Or.inl rfl) g11 rfl ?_
      refine i_rs 2 (cf' := (2, [some (.ref 50), some (.int l1), some (.int l2), some (.int (l3 + (1 : Int32))), none, none], [], i_S X (i_wI M 65 (Int32.toNatClampNeg l3) (0 : Int32)))) rfl ?_
      refine i_fg (lv' := [some (.ref 50), some (.int l1), some (.int l2), some (.int (l3 + (1 : Int32))), none, none]) (And.intro rfl (And.intro rfl (And.intro rfl (And.intro rfl True.intro)))) ?_
      exact hself (l3 + (1 : Int32)) (i_wI M 65 (Int32.toNatClampNeg l3) (0 : Int32)) _ h
def r_greatestPart (l1 : Int32) (l2 : Int32) (M : I_M) : Option (Int32 × I_M) :=
  r_greatestPart_L2 l1 l2 (fun M12 =>
        r_greatestPart_L26 l1 l2 i_F (0 : Int32) (0 : Int32) M12) i_F (0 : Int32) M
theorem ok_r_greatestPart {X : Nat × (Nat → Int32)} {d : Nat} {l1 : Int32} {l2 : Int32} {M : I_M} {r : (Int32 × I_M)} (hd : 68 ≤ d) (h : r_greatestPart l1 l2 M = some r) : I_Ex d 224 [.ref 50, .int l1, .int l2] (i_S X M) (some (.int r.1)) (i_S X r.2) := by
  obtain ⟨d, rfl⟩ : ∃ d1, d = d1 + 1 := ⟨d - 1, by omega⟩
  unfold r_greatestPart at h
  refine i_ex (e := i_r224) (lv := [some (.ref 50), some (.int l1), some (.int l2), none, none, none]) rfl (Nat.le_of_ble_eq_true rfl) rfl ?_
  show I_RnE (I_Ex d) i_c224 (0, [some (.ref 50), some (.int l1), some (.int l2), none, none, none], [], i_S X M) _ _
  refine i_rs 2 (cf' := (2, [some (.ref 50), some (.int l1), some (.int l2), some (.int (0 : Int32)), none, none], [], i_S X M)) rfl ?_
  refine i_fg (lv' := [some (.ref 50), some (.int l1), some (.int l2), some (.int (0 : Int32)), none, none]) (And.intro rfl (And.intro rfl (And.intro rfl (And.intro rfl True.intro)))) ?_
  refine ok_r_greatestPart_L2 (by omega) (fun M12 r h => ?_) i_F (0 : Int32) M _ h
  refine i_rs 4 (cf' := (26, [some (.ref 50), some (.int l1), some (.int l2), some (.int (0 : Int32)), some (.int (0 : Int32)), none], [], i_S X M12)) rfl ?_
  refine i_fg (lv' := [some (.ref 50), some (.int l1), some (.int l2), some (.int (0 : Int32)), some (.int (0 : Int32)), none]) (And.intro rfl (And.intro rfl (And.intro rfl (And.intro rfl (And.intro rfl True.intro))))) ?_
  refine ok_r_greatestPart_L26 (by omega) i_F (0 : Int32) (0 : Int32) M12 _ h
def r_next_B127 (self : Int32 → Int32 → Int32 → I_M → Option (Int32 × I_M)) (k146 : Int32 → Int32 → I_M → Option (Int32 × I_M)) (l1 : Int32) (l2 : Int32) (l5 : Int32) (l6 : Int32) (l7 : Int32) (M : I_M) : Option (Int32 × I_M) :=
  self (((100 : Int32) * l5) + l6) l7 (l6 + (1 : Int32)) M
theorem ok_r_next_B127 {X : Nat × (Nat → Int32)} {d : Nat} {self : Int32 → Int32 → Int32 → I_M → Option (Int32 × I_M)} {k146 : Int32 → Int32 → I_M → Option (Int32 × I_M)} {l1 : Int32} {l2 : Int32} {l5 : Int32} {l6 : Int32} {l7 : Int32} {M : I_M} {r : (Int32 × I_M)} (hself : ∀ (m3 : Int32) (m4 : Int32) (m6 : Int32) (M : I_M) (r : (Int32 × I_M)), self m3 m4 m6 M = some r → I_RnE (I_Ex d) i_c223 (92, [some (.ref 50), some (.int l1), some (.int l2), some (.int m3), some (.int m4), some (.int l5), some (.int m6), none], [], i_S X M) (some (.int r.1)) (i_S X r.2)) (hk146 : ∀ (m3 : Int32) (m4 : Int32) (M : I_M) (r : (Int32 × I_M)), k146 m3 m4 M = some r → I_RnE (I_Ex d) i_c223 (146, [some (.ref 50), some (.int l1), some (.int l2), some (.int m3), some (.int m4), some (.int l5), none, none], [], i_S X M) (some (.int r.1)) (i_S X r.2)) (hd : 70 ≤ d + 1) (h : r_next_B127 self k146 l1 l2 l5 l6 l7 M = some r) : I_RnE (I_Ex d) i_c223 (127, [some (.ref 50), some (.int l1), some (.int l2), none, none, some (.int l5), some (.int l6), some (.int l7)], [], i_S X M) (some (.int r.1)) (i_S X r.2) := by
  unfold r_next_B127 at h
  refine i_rs 10 (cf' := (92, [some (.ref 50), some (.int l1), some (.int l2), some (.int (((100 : Int32) * l5) + l6)), some (.int l7), some (.int l5), some (.int (l6 + (1 : Int32))), some (.int l7)], [], i_S X M)) rfl ?_
  refine i_fg (lv' := [some (.ref 50), some (.int l1), some (.int l2), some (.int (((100 : Int32) * l5) + l6)), some (.int l7), some (.int l5), some (.int (l6 + (1 : Int32))), none]) (And.intro rfl (And.intro rfl (And.intro rfl (And.intro rfl (And.intro rfl (And.intro rfl (And.intro rfl True.intro))))))) ?_
  exact hself (((100 : Int32) * l5) + l6) l7 (l6 + (1 : Int32)) M _ h
def r_next_L92 (l1 : Int32) (l2 : Int32) (l5 : Int32) (k146 : Int32 → Int32 → I_M → Option (Int32 × I_M)) : Nat → Int32 → Int32 → Int32 → I_M → Option (Int32 × I_M)
  | 0, _, _, _, _ => none
  | n + 1, l3, l4, l6, M =>
    Option.bind (r_cells M) (fun q4 => (if l6 < q4.1 then
        Option.bind (r_greatestPart (((100 : Int32) * l5) + l6) l1 q4.2) (fun q6 => (if l3 < (0 : Int32) then
          r_next_B127 ((r_next_L92 l1 l2 l5 k146 n)) k146 l1 l2 l5 l6 q6.1 q6.2
        else
          (if q6.1 < l4 then
            r_next_B127 ((r_next_L92 l1 l2 l5 k146 n)) k146 l1 l2 l5 l6 q6.1 q6.2
          else
            (r_next_L92 l1 l2 l5 k146 n) l3 l4 (l6 + (1 : Int32)) q6.2)))
      else
        k146 l3 l4 q4.2))
theorem ok_r_next_L92 {X : Nat × (Nat → Int32)} {d : Nat} {l1 : Int32} {l2 : Int32} {l5 : Int32} {k146 : Int32 → Int32 → I_M → Option (Int32 × I_M)} (hd : 70 ≤ d + 1) (hk146 : ∀ (l3 : Int32) (l4 : Int32) (M : I_M) (r : (Int32 × I_M)), k146 l3 l4 M = some r → I_RnE (I_Ex d) i_c223 (146, [some (.ref 50), some (.int l1), some (.int l2), some (.int l3), some (.int l4), some (.int l5), none, none], [], i_S X M) (some (.int r.1)) (i_S X r.2)) : ∀ (n : Nat) (l3 : Int32) (l4 : Int32) (l6 : Int32) (M : I_M) (r : (Int32 × I_M)), r_next_L92 l1 l2 l5 k146 n l3 l4 l6 M = some r → I_RnE (I_Ex d) i_c223 (92, [some (.ref 50), some (.int l1), some (.int l2), some (.int l3), some (.int l4), some (.int l5), some (.int l6), none], [], i_S X M) (some (.int r.1)) (i_S X r.2) := by
  intro n
  induction n with
  | zero => intro _ _ _ M r h; cases h
  | succ n hself =>
    intro l3 l4 l6 M r h
    rw [r_next_L92] at h
    refine i_rs 2 (cf' := (95, [some (.ref 50), some (.int l1), some (.int l2), some (.int l3), some (.int l4), some (.int l5), some (.int l6), none], [.ref 50, .int l6], i_S X M)) rfl ?_
    obtain ⟨q4, hq4, h⟩ := i_bdE h
    refine i_rcall (k := 178) (as := [.ref 50]) (cf1 := (98, [some (.ref 50), some (.int l1), some (.int l2), some (.int l3), some (.int l4), some (.int l5), some (.int l6), none], [.int l6], i_S X M)) (cf' := (98, [some (.ref 50), some (.int l1), some (.int l2), some (.int l3), some (.int l4), some (.int l5), some (.int l6), none], [.int q4.1, .int l6], i_S X q4.2)) rfl (ok_r_cells (by omega) hq4) rfl ?_
    by_cases c5 : l6 < q4.1
    · replace h := (if_pos c5).symm.trans h
      refine i_rbT (c := l6 < q4.1) (t := 101) (n := 146) rfl c5 ?_
      refine i_rs 7 (cf' := (111, [some (.ref 50), some (.int l1), some (.int l2), some (.int l3), some (.int l4), some (.int l5), some (.int l6), none], [.int l1, .int (((100 : Int32) * l5) + l6), .ref 50], i_S X q4.2)) rfl ?_
      obtain ⟨q6, hq6, h⟩ := i_bdE h
      refine i_rcall (k := 224) (as := [.ref 50, .int (((100 : Int32) * l5) + l6), .int l1]) (cf1 := (114, [some (.ref 50), some (.int l1), some (.int l2), some (.int l3), some (.int l4), some (.int l5), some (.int l6), none], [], i_S X q4.2)) (cf' := (114, [some (.ref 50), some (.int l1), some (.int l2), some (.int l3), some (.int l4), some (.int l5), some (.int l6), none], [.int q6.1], i_S X q6.2)) rfl (ok_r_greatestPart (by omega) hq6) rfl ?_
      refine i_rs 2 (cf' := (117, [some (.ref 50), some (.int l1), some (.int l2), some (.int l3), some (.int l4), some (.int l5), some (.int l6), some (.int q6.1)], [.int l3], i_S X q6.2)) rfl ?_
      by_cases c7 : l3 < (0 : Int32)
      · replace h := (if_pos c7).symm.trans h
        refine i_rbT (c := l3 < (0 : Int32)) (t := 127) (n := 120) rfl c7 ?_
        refine i_fg (lv' := [some (.ref 50), some (.int l1), some (.int l2), none, none, some (.int l5), some (.int l6), some (.int q6.1)]) (And.intro rfl (And.intro rfl (And.intro rfl (And.intro rfl (And.intro rfl (And.intro rfl True.intro)))))) ?_
        exact ok_r_next_B127 hself hk146 (by omega) h
      · replace h := (if_neg c7).symm.trans h
        refine i_rbF (c := l3 < (0 : Int32)) (t := 127) (n := 120) rfl c7 ?_
        refine i_rs 2 (cf' := (124, [some (.ref 50), some (.int l1), some (.int l2), some (.int l3), some (.int l4), some (.int l5), some (.int l6), some (.int q6.1)], [.int l4, .int q6.1], i_S X q6.2)) rfl ?_
        by_cases c8 : q6.1 < l4
        · replace h := (if_pos c8).symm.trans h
          refine i_rbT (c := q6.1 < l4) (t := 127) (n := 140) rfl c8 ?_
          refine i_fg (lv' := [some (.ref 50), some (.int l1), some (.int l2), none, none, some (.int l5), some (.int l6), some (.int q6.1)]) (And.intro rfl (And.intro rfl (And.intro rfl (And.intro rfl (And.intro rfl (And.intro rfl True.intro)))))) ?_
          exact ok_r_next_B127 hself hk146 (by omega) h
        · replace h := (if_neg c8).symm.trans h
          refine i_rbF (c := q6.1 < l4) (t := 127) (n := 140) rfl c8 ?_
          refine i_rs 2 (cf' := (92, [some (.ref 50), some (.int l1), some (.int l2), some (.int l3), some (.int l4), some (.int l5), some (.int (l6 + (1 : Int32))), some (.int q6.1)], [], i_S X q6.2)) rfl ?_
          refine i_fg (lv' := [some (.ref 50), some (.int l1), some (.int l2), some (.int l3), some (.int l4), some (.int l5), some (.int (l6 + (1 : Int32))), none]) (And.intro rfl (And.intro rfl (And.intro rfl (And.intro rfl (And.intro rfl (And.intro rfl (And.intro rfl True.intro))))))) ?_
          exact hself l3 l4 (l6 + (1 : Int32)) q6.2 _ h
    · replace h := (if_neg c5).symm.trans h
      refine i_rbF (c := l6 < q4.1) (t := 101) (n := 146) rfl c5 ?_
      refine i_fg (lv' := [some (.ref 50), some (.int l1), some (.int l2), some (.int l3), some (.int l4), some (.int l5), none, none]) (And.intro rfl (And.intro rfl (And.intro rfl (And.intro rfl (And.intro rfl (And.intro rfl True.intro)))))) ?_
      exact hk146 l3 l4 q4.2 _ h
def r_next_L75 (l1 : Int32) (l2 : Int32) (k152 : Int32 → Int32 → I_M → Option (Int32 × I_M)) : Nat → Int32 → Int32 → Int32 → I_M → Option (Int32 × I_M)
  | 0, _, _, _, _ => none
  | n + 1, l3, l4, l5, M =>
    (if l5 < (10 : Int32) then
        (if (0 : Int32) < (M.1 50 27) then
          r_next_L92 l1 l2 l5 (fun l3_3 l4_3 M3 =>
              (r_next_L75 l1 l2 k152 n) l3_3 l4_3 (l5 + (1 : Int32)) M3) i_F l3 l4 (0 : Int32) M
        else
          k152 l3 l4 M)
      else
        k152 l3 l4 M)
theorem ok_r_next_L75 {X : Nat × (Nat → Int32)} {d : Nat} {l1 : Int32} {l2 : Int32} {k152 : Int32 → Int32 → I_M → Option (Int32 × I_M)} (hd : 70 ≤ d + 1) (hk152 : ∀ (l3 : Int32) (l4 : Int32) (M : I_M) (r : (Int32 × I_M)), k152 l3 l4 M = some r → I_RnE (I_Ex d) i_c223 (152, [none, none, some (.int l2), some (.int l3), some (.int l4), none, none, none], [], i_S X M) (some (.int r.1)) (i_S X r.2)) : ∀ (n : Nat) (l3 : Int32) (l4 : Int32) (l5 : Int32) (M : I_M) (r : (Int32 × I_M)), r_next_L75 l1 l2 k152 n l3 l4 l5 M = some r → I_RnE (I_Ex d) i_c223 (75, [some (.ref 50), some (.int l1), some (.int l2), some (.int l3), some (.int l4), some (.int l5), none, none], [], i_S X M) (some (.int r.1)) (i_S X r.2) := by
  intro n
  induction n with
  | zero => intro _ _ _ M r h; cases h
  | succ n hself =>
    intro l3 l4 l5 M r h
    rw [r_next_L75] at h
    refine i_rs 2 (cf' := (79, [some (.ref 50), some (.int l1), some (.int l2), some (.int l3), some (.int l4), some (.int l5), none, none], [.int (10 : Int32), .int l5], i_S X M)) rfl ?_
    by_cases c1 : l5 < (10 : Int32)
    · replace h := (if_pos c1).symm.trans h
      refine i_rbT (c := l5 < (10 : Int32)) (t := 82) (n := 152) rfl c1 ?_
      refine i_rs 2 (cf' := (86, [some (.ref 50), some (.int l1), some (.int l2), some (.int l3), some (.int l4), some (.int l5), none, none], [.int (M.1 50 27)], i_S X M)) rfl ?_
      by_cases c2 : (0 : Int32) < (M.1 50 27)
      · replace h := (if_pos c2).symm.trans h
        refine i_rbT (c := (0 : Int32) < (M.1 50 27)) (t := 89) (n := 152) rfl c2 ?_
        refine i_rs 2 (cf' := (92, [some (.ref 50), some (.int l1), some (.int l2), some (.int l3), some (.int l4), some (.int l5), some (.int (0 : Int32)), none], [], i_S X M)) rfl ?_
        refine i_fg (lv' := [some (.ref 50), some (.int l1), some (.int l2), some (.int l3), some (.int l4), some (.int l5), some (.int (0 : Int32)), none]) (And.intro rfl (And.intro rfl (And.intro rfl (And.intro rfl (And.intro rfl (And.intro rfl (And.intro rfl True.intro))))))) ?_
        refine ok_r_next_L92 (by omega) (fun l3_3 l4_3 M3 r h => ?_) i_F l3 l4 (0 : Int32) M _ h
        refine i_rs 2 (cf' := (75, [some (.ref 50), some (.int l1), some (.int l2), some (.int l3_3), some (.int l4_3), some (.int (l5 + (1 : Int32))), none, none], [], i_S X M3)) rfl ?_
        refine i_fg (lv' := [some (.ref 50), some (.int l1), some (.int l2), some (.int l3_3), some (.int l4_3), some (.int (l5 + (1 : Int32))), none, none]) (And.intro rfl (And.intro rfl (And.intro rfl (And.intro rfl (And.intro rfl (And.intro rfl True.intro)))))) ?_
        exact hself l3_3 l4_3 (l5 + (1 : Int32)) M3 _ h
      · replace h := (if_neg c2).symm.trans h
        refine i_rbF (c := (0 : Int32) < (M.1 50 27)) (t := 89) (n := 152) rfl c2 ?_
        refine i_fg (lv' := [none, none, some (.int l2), some (.int l3), some (.int l4), none, none, none]) (And.intro rfl (And.intro rfl (And.intro rfl True.intro))) ?_
        exact hk152 l3 l4 M _ h
    · replace h := (if_neg c1).symm.trans h
      refine i_rbF (c := l5 < (10 : Int32)) (t := 82) (n := 152) rfl c1 ?_
      refine i_fg (lv' := [none, none, some (.int l2), some (.int l3), some (.int l4), none, none, none]) (And.intro rfl (And.intro rfl (And.intro rfl True.intro))) ?_
      exact hk152 l3 l4 M _ h
def r_next_L28 (l1 : Int32) (l2 : Int32) (k65 : I_M → Option (Int32 × I_M)) : Nat → Int32 → I_M → Option (Int32 × I_M)
  | 0, _, _ => none
  | n + 1, l3, M =>
    Option.bind (r_cells M) (fun q9 => (if l3 < ((10 : Int32) * q9.1) then
        Option.bind (r_liesWith l3 (-1 : Int32) q9.2) (fun q11 => (if q11.1 = (0 : Int32) then
          i_g l3 250 ((r_next_L28 l1 l2 k65 n) (l3 + (1 : Int32)) (i_wI q11.2 64 (Int32.toNatClampNeg l3) (1 : Int32)))
        else
          i_g l3 250 ((r_next_L28 l1 l2 k65 n) (l3 + (1 : Int32)) (i_wI q11.2 64 (Int32.toNatClampNeg l3) (0 : Int32)))))
      else
        k65  q9.2))
theorem ok_r_next_L28 {X : Nat × (Nat → Int32)} {d : Nat} {l1 : Int32} {l2 : Int32} {k65 : I_M → Option (Int32 × I_M)} (hd : 70 ≤ d + 1) (hk65 : ∀ (M : I_M) (r : (Int32 × I_M)), k65 M = some r → I_RnE (I_Ex d) i_c223 (65, [some (.ref 50), some (.int l1), some (.int l2), none, none, none, none, none], [], i_S X M) (some (.int r.1)) (i_S X r.2)) : ∀ (n : Nat) (l3 : Int32) (M : I_M) (r : (Int32 × I_M)), r_next_L28 l1 l2 k65 n l3 M = some r → I_RnE (I_Ex d) i_c223 (28, [some (.ref 50), some (.int l1), some (.int l2), some (.int l3), none, none, none, none], [], i_S X M) (some (.int r.1)) (i_S X r.2) := by
  intro n
  induction n with
  | zero => intro _ M r h; cases h
  | succ n hself =>
    intro l3 M r h
    rw [r_next_L28] at h
    refine i_rs 3 (cf' := (32, [some (.ref 50), some (.int l1), some (.int l2), some (.int l3), none, none, none, none], [.ref 50, .int (10 : Int32), .int l3], i_S X M)) rfl ?_
    obtain ⟨q9, hq9, h⟩ := i_bdE h
    refine i_rcall (k := 178) (as := [.ref 50]) (cf1 := (35, [some (.ref 50), some (.int l1), some (.int l2), some (.int l3), none, none, none, none], [.int (10 : Int32), .int l3], i_S X M)) (cf' := (35, [some (.ref 50), some (.int l1), some (.int l2), some (.int l3), none, none, none, none], [.int q9.1, .int (10 : Int32), .int l3], i_S X q9.2)) rfl (ok_r_cells (by omega) hq9) rfl ?_
    refine i_rs 1 (cf' := (36, [some (.ref 50), some (.int l1), some (.int l2), some (.int l3), none, none, none, none], [.int ((10 : Int32) * q9.1), .int l3], i_S X q9.2)) rfl ?_
    by_cases c10 : l3 < ((10 : Int32) * q9.1)
    · replace h := (if_pos c10).symm.trans h
      refine i_rbT (c := l3 < ((10 : Int32) * q9.1)) (t := 39) (n := 65) rfl c10 ?_
      refine i_rs 6 (cf' := (47, [some (.ref 50), some (.int l1), some (.int l2), some (.int l3), none, none, none, none], [.int (-1 : Int32), .int l3, .ref 50, .int l3, .ref 64], i_S X q9.2)) rfl ?_
      obtain ⟨q11, hq11, h⟩ := i_bdE h
      refine i_rcall (k := 217) (as := [.ref 50, .int l3, .int (-1 : Int32)]) (cf1 := (50, [some (.ref 50), some (.int l1), some (.int l2), some (.int l3), none, none, none, none], [.int l3, .ref 64], i_S X q9.2)) (cf' := (50, [some (.ref 50), some (.int l1), some (.int l2), some (.int l3), none, none, none, none], [.int q11.1, .int l3, .ref 64], i_S X q11.2)) rfl (ok_r_liesWith (by omega) hq11) rfl ?_
      by_cases c12 : q11.1 = (0 : Int32)
      · replace h := (if_pos c12).symm.trans h
        refine i_rbT (c := q11.1 = (0 : Int32)) (t := 53) (n := 57) rfl c12 ?_
        refine i_rs 2 (cf' := (58, [some (.ref 50), some (.int l1), some (.int l2), some (.int l3), none, none, none, none], [.int (1 : Int32), .int l3, .ref 64], i_S X q11.2)) rfl ?_
        obtain ⟨g13, h⟩ := i_gE h
        refine i_rbast (n := 250) (cf' := (59, [some (.ref 50), some (.int l1), some (.int l2), some (.int l3), none, none, none, none], [], i_S X (i_wI q11.2 64 (Int32.toNatClampNeg l3) (1 : Int32)))) rfl rfl (Or.inr (Or.inr rfl)) g13 rfl ?_
        refine i_rs 2 (cf' := (28, [some (.ref 50), some (.int l1), some (.int l2), some (.int (l3 + (1 : Int32))), none, none, none, none], [], i_S X (i_wI q11.2 64 (Int32.toNatClampNeg l3) (1 : Int32)))) rfl ?_
        refine i_fg (lv' := [some (.ref 50), some (.int l1), some (.int l2), some (.int (l3 + (1 : Int32))), none, none, none, none]) (And.intro rfl (And.intro rfl (And.intro rfl (And.intro rfl True.intro)))) ?_
        exact hself (l3 + (1 : Int32)) (i_wI q11.2 64 (Int32.toNatClampNeg l3) (1 : Int32)) _ h
      · replace h := (if_neg c12).symm.trans h
        refine i_rbF (c := q11.1 = (0 : Int32)) (t := 53) (n := 57) rfl c12 ?_
        refine i_rs 1 (cf' := (58, [some (.ref 50), some (.int l1), some (.int l2), some (.int l3), none, none, none, none], [.int (0 : Int32), .int l3, .ref 64], i_S X q11.2)) rfl ?_
        obtain ⟨g14, h⟩ := i_gE h
        refine i_rbast (n := 250) (cf' := (59, [some (.ref 50), some (.int l1), some (.int l2), some (.int l3), none, none, none, none], [], i_S X (i_wI q11.2 64 (Int32.toNatClampNeg l3) (0 : Int32)))) rfl rfl (Or.inr (Or.inl rfl)) g14 rfl ?_
        refine i_rs 2 (cf' := (28, [some (.ref 50), some (.int l1), some (.int l2), some (.int (l3 + (1 : Int32))), none, none, none, none], [], i_S X (i_wI q11.2 64 (Int32.toNatClampNeg l3) (0 : Int32)))) rfl ?_
        refine i_fg (lv' := [some (.ref 50), some (.int l1), some (.int l2), some (.int (l3 + (1 : Int32))), none, none, none, none]) (And.intro rfl (And.intro rfl (And.intro rfl (And.intro rfl True.intro)))) ?_
        exact hself (l3 + (1 : Int32)) (i_wI q11.2 64 (Int32.toNatClampNeg l3) (0 : Int32)) _ h
    · replace h := (if_neg c10).symm.trans h
      refine i_rbF (c := l3 < ((10 : Int32) * q9.1)) (t := 39) (n := 65) rfl c10 ?_
      refine i_fg (lv' := [some (.ref 50), some (.int l1), some (.int l2), none, none, none, none, none]) (And.intro rfl (And.intro rfl (And.intro rfl True.intro))) ?_
      exact hk65  q9.2 _ h
def r_next (l1 : Int32) (l2 : Int32) (M : I_M) : Option (Int32 × I_M) :=
  Option.bind (r_isCell l1 M) (fun q15 => (if q15.1 = (0 : Int32) then
      some ((-1 : Int32), q15.2)
    else
      Option.bind (r_within (Int32.toInt64 l2) (0 : Int64) (1 : Int64) q15.2) (fun q17 => (if q17.1 = (0 : Int32) then
        some ((-1 : Int32), q17.2)
      else
        Option.bind (r_goesThrough (1 : Int32) (0 : Int32) q17.2) (fun q19 => r_next_L28 l1 l2 (fun M20 =>
            r_next_L75 l1 l2 (fun l3_21 l4_21 M21 =>
                (if l2 = (0 : Int32) then
                  some (l3_21, M21)
                else
                  some (l4_21, M21))) i_F (-2 : Int32) (-2 : Int32) (0 : Int32) M20) i_F (0 : Int32) q19)))))
theorem ok_r_next {X : Nat × (Nat → Int32)} {d : Nat} {l1 : Int32} {l2 : Int32} {M : I_M} {r : (Int32 × I_M)} (hd : 70 ≤ d) (h : r_next l1 l2 M = some r) : I_Ex d 223 [.ref 50, .int l1, .int l2] (i_S X M) (some (.int r.1)) (i_S X r.2) := by
  obtain ⟨d, rfl⟩ : ∃ d1, d = d1 + 1 := ⟨d - 1, by omega⟩
  unfold r_next at h
  refine i_ex (e := i_r223) (lv := [some (.ref 50), some (.int l1), some (.int l2), none, none, none, none, none]) rfl (Nat.le_of_ble_eq_true rfl) rfl ?_
  show I_RnE (I_Ex d) i_c223 (0, [some (.ref 50), some (.int l1), some (.int l2), none, none, none, none, none], [], i_S X M) _ _
  refine i_rs 2 (cf' := (2, [some (.ref 50), some (.int l1), some (.int l2), none, none, none, none, none], [.int l1, .ref 50], i_S X M)) rfl ?_
  obtain ⟨q15, hq15, h⟩ := i_bdE h
  refine i_rcall (k := 183) (as := [.ref 50, .int l1]) (cf1 := (5, [some (.ref 50), some (.int l1), some (.int l2), none, none, none, none, none], [], i_S X M)) (cf' := (5, [some (.ref 50), some (.int l1), some (.int l2), none, none, none, none, none], [.int q15.1], i_S X q15.2)) rfl (ok_r_isCell (by omega) hq15) rfl ?_
  by_cases c16 : q15.1 = (0 : Int32)
  · replace h := (if_pos c16).symm.trans h
    refine i_rbT (c := q15.1 = (0 : Int32)) (t := 18) (n := 8) rfl c16 ?_
    refine i_rs 1 (cf' := (19, [some (.ref 50), some (.int l1), some (.int l2), none, none, none, none, none], [.int (-1 : Int32)], i_S X q15.2)) rfl ?_
    obtain rfl := Option.some.inj h
    exact i_rret rfl rfl
  · replace h := (if_neg c16).symm.trans h
    refine i_rbF (c := q15.1 = (0 : Int32)) (t := 18) (n := 8) rfl c16 ?_
    refine i_rs 4 (cf' := (12, [some (.ref 50), some (.int l1), some (.int l2), none, none, none, none, none], [.long (1 : Int64), .long (0 : Int64), .long (Int32.toInt64 l2)], i_S X q15.2)) rfl ?_
    obtain ⟨q17, hq17, h⟩ := i_bdE h
    refine i_rcall (k := 175) (as := [.long (Int32.toInt64 l2), .long (0 : Int64), .long (1 : Int64)]) (cf1 := (15, [some (.ref 50), some (.int l1), some (.int l2), none, none, none, none, none], [], i_S X q15.2)) (cf' := (15, [some (.ref 50), some (.int l1), some (.int l2), none, none, none, none, none], [.int q17.1], i_S X q17.2)) rfl (ok_r_within (by omega) hq17) rfl ?_
    by_cases c18 : q17.1 = (0 : Int32)
    · replace h := (if_pos c18).symm.trans h
      refine i_rbT (c := q17.1 = (0 : Int32)) (t := 18) (n := 20) rfl c18 ?_
      refine i_rs 1 (cf' := (19, [some (.ref 50), some (.int l1), some (.int l2), none, none, none, none, none], [.int (-1 : Int32)], i_S X q17.2)) rfl ?_
      obtain rfl := Option.some.inj h
      exact i_rret rfl rfl
    · replace h := (if_neg c18).symm.trans h
      refine i_rbF (c := q17.1 = (0 : Int32)) (t := 18) (n := 20) rfl c18 ?_
      refine i_rs 3 (cf' := (23, [some (.ref 50), some (.int l1), some (.int l2), none, none, none, none, none], [.int (0 : Int32), .int (1 : Int32), .ref 50], i_S X q17.2)) rfl ?_
      obtain ⟨q19, hq19, h⟩ := i_bdE h
      refine i_rcall (k := 214) (as := [.ref 50, .int (1 : Int32), .int (0 : Int32)]) (cf1 := (26, [some (.ref 50), some (.int l1), some (.int l2), none, none, none, none, none], [], i_S X q17.2)) (cf' := (26, [some (.ref 50), some (.int l1), some (.int l2), none, none, none, none, none], [], i_S X q19)) rfl (ok_r_goesThrough (by omega) hq19) rfl ?_
      refine i_rs 2 (cf' := (28, [some (.ref 50), some (.int l1), some (.int l2), some (.int (0 : Int32)), none, none, none, none], [], i_S X q19)) rfl ?_
      refine i_fg (lv' := [some (.ref 50), some (.int l1), some (.int l2), some (.int (0 : Int32)), none, none, none, none]) (And.intro rfl (And.intro rfl (And.intro rfl (And.intro rfl True.intro)))) ?_
      refine ok_r_next_L28 (by omega) (fun M20 r h => ?_) i_F (0 : Int32) q19 _ h
      refine i_rs 6 (cf' := (75, [some (.ref 50), some (.int l1), some (.int l2), some (.int (-2 : Int32)), some (.int (-2 : Int32)), some (.int (0 : Int32)), none, none], [], i_S X M20)) rfl ?_
      refine i_fg (lv' := [some (.ref 50), some (.int l1), some (.int l2), some (.int (-2 : Int32)), some (.int (-2 : Int32)), some (.int (0 : Int32)), none, none]) (And.intro rfl (And.intro rfl (And.intro rfl (And.intro rfl (And.intro rfl (And.intro rfl True.intro)))))) ?_
      refine ok_r_next_L75 (by omega) (fun l3_21 l4_21 M21 r h => ?_) i_F (-2 : Int32) (-2 : Int32) (0 : Int32) M20 _ h
      refine i_rs 1 (cf' := (153, [none, none, some (.int l2), some (.int l3_21), some (.int l4_21), none, none, none], [.int l2], i_S X M21)) rfl ?_
      by_cases c22 : l2 = (0 : Int32)
      · replace h := (if_pos c22).symm.trans h
        refine i_rbT (c := l2 = (0 : Int32)) (t := 156) (n := 160) rfl c22 ?_
        refine i_rs 2 (cf' := (162, [none, none, some (.int l2), some (.int l3_21), some (.int l4_21), none, none, none], [.int l3_21], i_S X M21)) rfl ?_
        obtain rfl := Option.some.inj h
        exact i_rret rfl rfl
      · replace h := (if_neg c22).symm.trans h
        refine i_rbF (c := l2 = (0 : Int32)) (t := 156) (n := 160) rfl c22 ?_
        refine i_rs 1 (cf' := (162, [none, none, some (.int l2), some (.int l3_21), some (.int l4_21), none, none, none], [.int l4_21], i_S X M21)) rfl ?_
        obtain rfl := Option.some.inj h
        exact i_rret rfl rfl
def b_told (l1 : Int32) (l2 : Int32) (M : I_M) : Option (Int32 × I_M) :=
  Option.bind (b_isSize l1 M) (fun q1 => (if q1.1 = (0 : Int32) then
      some ((-1 : Int32), q1.2)
    else
      Option.bind (b_Hearings_has_18 l2 q1.2) (fun q3 => (if q3.1 = (0 : Int32) then
        some ((-1 : Int32), q3.2)
      else
        Option.bind (b_Search_goThrough l1 l2 q3.2) (fun q5 => Option.bind (b_Search_goThrough l1 (-1 : Int32) q5) (fun q6 => some (((q5.1 22 5) - (q6.1 22 5)), q6)))))))
theorem ok_b_told {X : Nat × (Nat → Int32)} {d : Nat} {l1 : Int32} {l2 : Int32} {M : I_M} {r : (Int32 × I_M)} (hd : 7 ≤ d) (h : b_told l1 l2 M = some r) : I_Ex d 101 [.ref 0, .int l1, .int l2] (i_S X M) (some (.int r.1)) (i_S X r.2) := by
  obtain ⟨d, rfl⟩ : ∃ d1, d = d1 + 1 := ⟨d - 1, by omega⟩
  unfold b_told at h
  refine i_ex (e := i_r101) (lv := [some (.ref 0), some (.int l1), some (.int l2), none]) rfl (Nat.le_of_ble_eq_true rfl) rfl ?_
  show I_RnE (I_Ex d) i_c101 (0, [some (.ref 0), some (.int l1), some (.int l2), none], [], i_S X M) _ _
  refine i_rs 1 (cf' := (1, [some (.ref 0), some (.int l1), some (.int l2), none], [.int l1], i_S X M)) rfl ?_
  obtain ⟨q1, hq1, h⟩ := i_bdE h
  refine i_rcall (k := 81) (as := [.int l1]) (cf1 := (4, [some (.ref 0), some (.int l1), some (.int l2), none], [], i_S X M)) (cf' := (4, [some (.ref 0), some (.int l1), some (.int l2), none], [.int q1.1], i_S X q1.2)) rfl (ok_b_isSize (by omega) hq1) rfl ?_
  by_cases c2 : q1.1 = (0 : Int32)
  · replace h := (if_pos c2).symm.trans h
    refine i_rbT (c := q1.1 = (0 : Int32)) (t := 18) (n := 7) rfl c2 ?_
    refine i_rs 1 (cf' := (19, [some (.ref 0), some (.int l1), some (.int l2), none], [.int (-1 : Int32)], i_S X q1.2)) rfl ?_
    obtain rfl := Option.some.inj h
    exact i_rret rfl rfl
  · replace h := (if_neg c2).symm.trans h
    refine i_rbF (c := q1.1 = (0 : Int32)) (t := 18) (n := 7) rfl c2 ?_
    refine i_rs 3 (cf' := (12, [some (.ref 0), some (.int l1), some (.int l2), none], [.int l2, .ref 18], i_S X q1.2)) rfl ?_
    obtain ⟨q3, hq3, h⟩ := i_bdE h
    refine i_rcall (k := 41) (as := [.ref 18, .int l2]) (cf1 := (15, [some (.ref 0), some (.int l1), some (.int l2), none], [], i_S X q1.2)) (cf' := (15, [some (.ref 0), some (.int l1), some (.int l2), none], [.int q3.1], i_S X q3.2)) rfl (ok_b_Hearings_has_18 (by omega) hq3) rfl ?_
    by_cases c4 : q3.1 = (0 : Int32)
    · replace h := (if_pos c4).symm.trans h
      refine i_rbT (c := q3.1 = (0 : Int32)) (t := 18) (n := 20) rfl c4 ?_
      refine i_rs 1 (cf' := (19, [some (.ref 0), some (.int l1), some (.int l2), none], [.int (-1 : Int32)], i_S X q3.2)) rfl ?_
      obtain rfl := Option.some.inj h
      exact i_rret rfl rfl
    · replace h := (if_neg c4).symm.trans h
      refine i_rbF (c := q3.1 = (0 : Int32)) (t := 18) (n := 20) rfl c4 ?_
      refine i_rs 4 (cf' := (26, [some (.ref 0), some (.int l1), some (.int l2), none], [.int l2, .int l1, .ref 22], i_S X q3.2)) rfl ?_
      obtain ⟨q5, hq5, h⟩ := i_bdE h
      refine i_rcall (k := 82) (as := [.ref 22, .int l1, .int l2]) (cf1 := (29, [some (.ref 0), some (.int l1), some (.int l2), none], [], i_S X q3.2)) (cf' := (29, [some (.ref 0), some (.int l1), some (.int l2), none], [], i_S X q5)) rfl (ok_b_Search_goThrough (by omega) hq5) rfl ?_
      refine i_rs 8 (cf' := (43, [some (.ref 0), some (.int l1), some (.int l2), some (.int (q5.1 22 5))], [.int (-1 : Int32), .int l1, .ref 22], i_S X q5)) rfl ?_
      obtain ⟨q6, hq6, h⟩ := i_bdE h
      refine i_rcall (k := 82) (as := [.ref 22, .int l1, .int (-1 : Int32)]) (cf1 := (46, [some (.ref 0), some (.int l1), some (.int l2), some (.int (q5.1 22 5))], [], i_S X q5)) (cf' := (46, [some (.ref 0), some (.int l1), some (.int l2), some (.int (q5.1 22 5))], [], i_S X q6)) rfl (ok_b_Search_goThrough (by omega) hq6) rfl ?_
      refine i_rs 5 (cf' := (55, [some (.ref 0), some (.int l1), some (.int l2), some (.int (q5.1 22 5))], [.int ((q5.1 22 5) - (q6.1 22 5))], i_S X q6)) rfl ?_
      obtain rfl := Option.some.inj h
      exact i_rret rfl rfl
def r_told (l1 : Int32) (l2 : Int32) (M : I_M) : Option (Int32 × I_M) :=
  Option.bind (r_isN l1 M) (fun q1 => (if q1.1 = (0 : Int32) then
      some ((-1 : Int32), q1.2)
    else
      Option.bind (r_within (Int32.toInt64 l2) (0 : Int64) (Int32.toInt64 ((q1.2.1 50 24) - (1 : Int32))) q1.2) (fun q3 => (if q3.1 = (0 : Int32) then
        some ((-1 : Int32), q3.2)
      else
        Option.bind (r_goesThrough l1 ((1 : Int32) <<< (l2 &&& 31)) q3.2) (fun q5 => Option.bind (r_goesThrough l1 (0 : Int32) q5) (fun q6 => some (((q5.1 50 27) - (q6.1 50 27)), q6)))))))
theorem ok_r_told {X : Nat × (Nat → Int32)} {d : Nat} {l1 : Int32} {l2 : Int32} {M : I_M} {r : (Int32 × I_M)} (hd : 70 ≤ d) (h : r_told l1 l2 M = some r) : I_Ex d 225 [.ref 50, .int l1, .int l2] (i_S X M) (some (.int r.1)) (i_S X r.2) := by
  obtain ⟨d, rfl⟩ : ∃ d1, d = d1 + 1 := ⟨d - 1, by omega⟩
  unfold r_told at h
  refine i_ex (e := i_r225) (lv := [some (.ref 50), some (.int l1), some (.int l2), none]) rfl (Nat.le_of_ble_eq_true rfl) rfl ?_
  show I_RnE (I_Ex d) i_c225 (0, [some (.ref 50), some (.int l1), some (.int l2), none], [], i_S X M) _ _
  refine i_rs 1 (cf' := (1, [some (.ref 50), some (.int l1), some (.int l2), none], [.int l1], i_S X M)) rfl ?_
  obtain ⟨q1, hq1, h⟩ := i_bdE h
  refine i_rcall (k := 213) (as := [.int l1]) (cf1 := (4, [some (.ref 50), some (.int l1), some (.int l2), none], [], i_S X M)) (cf' := (4, [some (.ref 50), some (.int l1), some (.int l2), none], [.int q1.1], i_S X q1.2)) rfl (ok_r_isN (by omega) hq1) rfl ?_
  by_cases c2 : q1.1 = (0 : Int32)
  · replace h := (if_pos c2).symm.trans h
    refine i_rbT (c := q1.1 = (0 : Int32)) (t := 23) (n := 7) rfl c2 ?_
    refine i_rs 1 (cf' := (24, [some (.ref 50), some (.int l1), some (.int l2), none], [.int (-1 : Int32)], i_S X q1.2)) rfl ?_
    obtain rfl := Option.some.inj h
    exact i_rret rfl rfl
  · replace h := (if_neg c2).symm.trans h
    refine i_rbF (c := q1.1 = (0 : Int32)) (t := 23) (n := 7) rfl c2 ?_
    refine i_rs 8 (cf' := (17, [some (.ref 50), some (.int l1), some (.int l2), none], [.long (Int32.toInt64 ((q1.2.1 50 24) - (1 : Int32))), .long (0 : Int64), .long (Int32.toInt64 l2)], i_S X q1.2)) rfl ?_
    obtain ⟨q3, hq3, h⟩ := i_bdE h
    refine i_rcall (k := 175) (as := [.long (Int32.toInt64 l2), .long (0 : Int64), .long (Int32.toInt64 ((q1.2.1 50 24) - (1 : Int32)))]) (cf1 := (20, [some (.ref 50), some (.int l1), some (.int l2), none], [], i_S X q1.2)) (cf' := (20, [some (.ref 50), some (.int l1), some (.int l2), none], [.int q3.1], i_S X q3.2)) rfl (ok_r_within (by omega) hq3) rfl ?_
    by_cases c4 : q3.1 = (0 : Int32)
    · replace h := (if_pos c4).symm.trans h
      refine i_rbT (c := q3.1 = (0 : Int32)) (t := 23) (n := 25) rfl c4 ?_
      refine i_rs 1 (cf' := (24, [some (.ref 50), some (.int l1), some (.int l2), none], [.int (-1 : Int32)], i_S X q3.2)) rfl ?_
      obtain rfl := Option.some.inj h
      exact i_rret rfl rfl
    · replace h := (if_neg c4).symm.trans h
      refine i_rbF (c := q3.1 = (0 : Int32)) (t := 23) (n := 25) rfl c4 ?_
      refine i_rs 5 (cf' := (30, [some (.ref 50), some (.int l1), some (.int l2), none], [.int ((1 : Int32) <<< (l2 &&& 31)), .int l1, .ref 50], i_S X q3.2)) rfl ?_
      obtain ⟨q5, hq5, h⟩ := i_bdE h
      refine i_rcall (k := 214) (as := [.ref 50, .int l1, .int ((1 : Int32) <<< (l2 &&& 31))]) (cf1 := (33, [some (.ref 50), some (.int l1), some (.int l2), none], [], i_S X q3.2)) (cf' := (33, [some (.ref 50), some (.int l1), some (.int l2), none], [], i_S X q5)) rfl (ok_r_goesThrough (by omega) hq5) rfl ?_
      refine i_rs 6 (cf' := (41, [some (.ref 50), some (.int l1), some (.int l2), some (.int (q5.1 50 27))], [.int (0 : Int32), .int l1, .ref 50], i_S X q5)) rfl ?_
      obtain ⟨q6, hq6, h⟩ := i_bdE h
      refine i_rcall (k := 214) (as := [.ref 50, .int l1, .int (0 : Int32)]) (cf1 := (44, [some (.ref 50), some (.int l1), some (.int l2), some (.int (q5.1 50 27))], [], i_S X q5)) (cf' := (44, [some (.ref 50), some (.int l1), some (.int l2), some (.int (q5.1 50 27))], [], i_S X q6)) rfl (ok_r_goesThrough (by omega) hq6) rfl ?_
      refine i_rs 4 (cf' := (50, [some (.ref 50), some (.int l1), some (.int l2), some (.int (q5.1 50 27))], [.int ((q5.1 50 27) - (q6.1 50 27))], i_S X q6)) rfl ?_
      obtain rfl := Option.some.inj h
      exact i_rret rfl rfl
def b_Search_falseBits_L5 (l1 : Int32) (l2 : Int32) : Nat → Int32 → Int32 → I_M → Option (Int32 × I_M)
  | 0, _, _, _ => none
  | n + 1, l3, l4, M =>
    (if l4 < (M.1 18 3) then
        Option.bind (b_Search_isSo l4 l1 l2 M) (fun q2 => (if q2.1 = (0 : Int32) then
          (b_Search_falseBits_L5 l1 l2 n) (l3 ||| ((1 : Int32) <<< (l4 &&& 31))) (l4 + (1 : Int32)) q2.2
        else
          (b_Search_falseBits_L5 l1 l2 n) l3 (l4 + (1 : Int32)) q2.2))
      else
        some (l3, M))
theorem ok_b_Search_falseBits_L5 {X : Nat × (Nat → Int32)} {d : Nat} {l1 : Int32} {l2 : Int32} (hd : 3 ≤ d + 1) : ∀ (n : Nat) (l3 : Int32) (l4 : Int32) (M : I_M) (r : (Int32 × I_M)), b_Search_falseBits_L5 l1 l2 n l3 l4 M = some r → I_RnE (I_Ex d) i_c104 (5, [some (.ref 22), some (.int l1), some (.int l2), some (.int l3), some (.int l4)], [], i_S X M) (some (.int r.1)) (i_S X r.2) := by
  intro n
  induction n with
  | zero => intro _ _ M r h; cases h
  | succ n hself =>
    intro l3 l4 M r h
    rw [b_Search_falseBits_L5] at h
    refine i_rs 4 (cf' := (14, [some (.ref 22), some (.int l1), some (.int l2), some (.int l3), some (.int l4)], [.int (M.1 18 3), .int l4], i_S X M)) rfl ?_
    by_cases c1 : l4 < (M.1 18 3)
    · replace h := (if_pos c1).symm.trans h
      refine i_rbT (c := l4 < (M.1 18 3)) (t := 17) (n := 41) rfl c1 ?_
      refine i_rs 4 (cf' := (22, [some (.ref 22), some (.int l1), some (.int l2), some (.int l3), some (.int l4)], [.int l2, .int l1, .int l4, .ref 22], i_S X M)) rfl ?_
      obtain ⟨q2, hq2, h⟩ := i_bdE h
      refine i_rcall (k := 88) (as := [.ref 22, .int l4, .int l1, .int l2]) (cf1 := (25, [some (.ref 22), some (.int l1), some (.int l2), some (.int l3), some (.int l4)], [], i_S X M)) (cf' := (25, [some (.ref 22), some (.int l1), some (.int l2), some (.int l3), some (.int l4)], [.int q2.1], i_S X q2.2)) rfl (ok_b_Search_isSo (by omega) hq2) rfl ?_
      by_cases c3 : q2.1 = (0 : Int32)
      · replace h := (if_pos c3).symm.trans h
        refine i_rbT (c := q2.1 = (0 : Int32)) (t := 28) (n := 35) rfl c3 ?_
        refine i_rs 8 (cf' := (5, [some (.ref 22), some (.int l1), some (.int l2), some (.int (l3 ||| ((1 : Int32) <<< (l4 &&& 31)))), some (.int (l4 + (1 : Int32)))], [], i_S X q2.2)) rfl ?_
        refine i_fg (lv' := [some (.ref 22), some (.int l1), some (.int l2), some (.int (l3 ||| ((1 : Int32) <<< (l4 &&& 31)))), some (.int (l4 + (1 : Int32)))]) (And.intro rfl (And.intro rfl (And.intro rfl (And.intro rfl (And.intro rfl True.intro))))) ?_
        exact hself (l3 ||| ((1 : Int32) <<< (l4 &&& 31))) (l4 + (1 : Int32)) q2.2 _ h
      · replace h := (if_neg c3).symm.trans h
        refine i_rbF (c := q2.1 = (0 : Int32)) (t := 28) (n := 35) rfl c3 ?_
        refine i_rs 2 (cf' := (5, [some (.ref 22), some (.int l1), some (.int l2), some (.int l3), some (.int (l4 + (1 : Int32)))], [], i_S X q2.2)) rfl ?_
        refine i_fg (lv' := [some (.ref 22), some (.int l1), some (.int l2), some (.int l3), some (.int (l4 + (1 : Int32)))]) (And.intro rfl (And.intro rfl (And.intro rfl (And.intro rfl (And.intro rfl True.intro))))) ?_
        exact hself l3 (l4 + (1 : Int32)) q2.2 _ h
    · replace h := (if_neg c1).symm.trans h
      refine i_rbF (c := l4 < (M.1 18 3)) (t := 17) (n := 41) rfl c1 ?_
      refine i_rs 1 (cf' := (42, [some (.ref 22), some (.int l1), some (.int l2), some (.int l3), some (.int l4)], [.int l3], i_S X M)) rfl ?_
      obtain rfl := Option.some.inj h
      exact i_rret rfl rfl
def b_Search_falseBits (l1 : Int32) (l2 : Int32) (M : I_M) : Option (Int32 × I_M) :=
  b_Search_falseBits_L5 l1 l2 i_F (0 : Int32) (0 : Int32) M
theorem ok_b_Search_falseBits {X : Nat × (Nat → Int32)} {d : Nat} {l1 : Int32} {l2 : Int32} {M : I_M} {r : (Int32 × I_M)} (hd : 3 ≤ d) (h : b_Search_falseBits l1 l2 M = some r) : I_Ex d 104 [.ref 22, .int l1, .int l2] (i_S X M) (some (.int r.1)) (i_S X r.2) := by
  obtain ⟨d, rfl⟩ : ∃ d1, d = d1 + 1 := ⟨d - 1, by omega⟩
  unfold b_Search_falseBits at h
  refine i_ex (e := i_r104) (lv := [some (.ref 22), some (.int l1), some (.int l2), none, none]) rfl (Nat.le_of_ble_eq_true rfl) rfl ?_
  show I_RnE (I_Ex d) i_c104 (0, [some (.ref 22), some (.int l1), some (.int l2), none, none], [], i_S X M) _ _
  refine i_rs 4 (cf' := (5, [some (.ref 22), some (.int l1), some (.int l2), some (.int (0 : Int32)), some (.int (0 : Int32))], [], i_S X M)) rfl ?_
  refine i_fg (lv' := [some (.ref 22), some (.int l1), some (.int l2), some (.int (0 : Int32)), some (.int (0 : Int32))]) (And.intro rfl (And.intro rfl (And.intro rfl (And.intro rfl (And.intro rfl True.intro))))) ?_
  refine ok_b_Search_falseBits_L5 (by omega) i_F (0 : Int32) (0 : Int32) M _ h
def j_bitCount (l0 : Int32) (M : I_M) : Option (Int32 × I_M) :=
  i_let (((l0 - ((i_ushr l0 (1 : Int32)) &&& (1431655765 : Int32))) &&& (858993459 : Int32)) + ((i_ushr (l0 - ((i_ushr l0 (1 : Int32)) &&& (1431655765 : Int32))) (2 : Int32)) &&& (858993459 : Int32))) (fun x1 => i_let (((x1 + (i_ushr x1 (4 : Int32))) &&& (252645135 : Int32)) + (i_ushr ((x1 + (i_ushr x1 (4 : Int32))) &&& (252645135 : Int32)) (8 : Int32))) (fun x2 => some (((x2 + (i_ushr x2 (16 : Int32))) &&& (63 : Int32)), M)))
theorem ok_j_bitCount {X : Nat × (Nat → Int32)} {d : Nat} {l0 : Int32} {M : I_M} {r : (Int32 × I_M)} (hd : 1 ≤ d) (h : j_bitCount l0 M = some r) : I_Ex d 105 [.int l0] (i_S X M) (some (.int r.1)) (i_S X r.2) := by
  obtain ⟨d, rfl⟩ : ∃ d1, d = d1 + 1 := ⟨d - 1, by omega⟩
  unfold j_bitCount at h
  refine i_ex (e := i_r105) (lv := [some (.int l0)]) rfl (Nat.le_of_ble_eq_true rfl) rfl ?_
  show I_RnE (I_Ex d) i_c105 (0, [some (.int l0)], [], i_S X M) _ _
  refine i_rs 17 (cf' := (23, [some (.int (l0 - ((i_ushr l0 (1 : Int32)) &&& (1431655765 : Int32))))], [.int (((l0 - ((i_ushr l0 (1 : Int32)) &&& (1431655765 : Int32))) &&& (858993459 : Int32)) + ((i_ushr (l0 - ((i_ushr l0 (1 : Int32)) &&& (1431655765 : Int32))) (2 : Int32)) &&& (858993459 : Int32)))], i_S X M)) rfl ?_
  obtain ⟨x1, ex1, h⟩ := i_letE h
  refine i_cfe (cf' := (23, [some (.int (l0 - ((i_ushr l0 (1 : Int32)) &&& (1431655765 : Int32))))], [.int x1], i_S X M)) (by rw [ex1]) ?_
  refine i_rs 14 (cf' := (40, [some (.int ((x1 + (i_ushr x1 (4 : Int32))) &&& (252645135 : Int32)))], [.int (((x1 + (i_ushr x1 (4 : Int32))) &&& (252645135 : Int32)) + (i_ushr ((x1 + (i_ushr x1 (4 : Int32))) &&& (252645135 : Int32)) (8 : Int32)))], i_S X M)) rfl ?_
  obtain ⟨x2, ex2, h⟩ := i_letE h
  refine i_cfe (cf' := (40, [some (.int ((x1 + (i_ushr x1 (4 : Int32))) &&& (252645135 : Int32)))], [.int x2], i_S X M)) (by rw [ex2]) ?_
  refine i_rs 10 (cf' := (52, [some (.int (x2 + (i_ushr x2 (16 : Int32))))], [.int ((x2 + (i_ushr x2 (16 : Int32))) &&& (63 : Int32))], i_S X M)) rfl ?_
  obtain rfl := Option.some.inj h
  exact i_rret rfl rfl
def b_Search_fewestFalse_L42 (l1 : Int32) (l3 : Int32) (l4 : Int32) (k95 : Int32 → I_M → Option (Int32 × I_M)) : Nat → Int32 → Int32 → I_M → Option (Int32 × I_M)
  | 0, _, _, _ => none
  | n + 1, l2, l5, M =>
    (if l5 < l4 then
        Option.bind (b_Search_falseBits l3 l5 M) (fun q7 => Option.bind (j_bitCount l2 q7.2) (fun q8 => Option.bind (j_bitCount q7.1 q8.2) (fun q9 => (if (0 : Int32) < (q8.1 - q9.1) then
          (b_Search_fewestFalse_L42 l1 l3 l4 k95 n) q7.1 (l5 + (1 : Int32)) q9.2
        else
          (if (q8.1 - q9.1) = (0 : Int32) then
            (if q7.1 < l2 then
              (b_Search_fewestFalse_L42 l1 l3 l4 k95 n) q7.1 (l5 + (1 : Int32)) q9.2
            else
              (b_Search_fewestFalse_L42 l1 l3 l4 k95 n) l2 (l5 + (1 : Int32)) q9.2)
          else
            (b_Search_fewestFalse_L42 l1 l3 l4 k95 n) l2 (l5 + (1 : Int32)) q9.2)))))
      else
        k95 l2 M)
theorem ok_b_Search_fewestFalse_L42 {X : Nat × (Nat → Int32)} {d : Nat} {l1 : Int32} {l3 : Int32} {l4 : Int32} {k95 : Int32 → I_M → Option (Int32 × I_M)} (hd : 6 ≤ d + 1) (hk95 : ∀ (l2 : Int32) (M : I_M) (r : (Int32 × I_M)), k95 l2 M = some r → I_RnE (I_Ex d) i_c103 (95, [some (.ref 22), some (.int l1), some (.int l2), some (.int l3), none, none, none, none], [], i_S X M) (some (.int r.1)) (i_S X r.2)) : ∀ (n : Nat) (l2 : Int32) (l5 : Int32) (M : I_M) (r : (Int32 × I_M)), b_Search_fewestFalse_L42 l1 l3 l4 k95 n l2 l5 M = some r → I_RnE (I_Ex d) i_c103 (42, [some (.ref 22), some (.int l1), some (.int l2), some (.int l3), some (.int l4), some (.int l5), none, none], [], i_S X M) (some (.int r.1)) (i_S X r.2) := by
  intro n
  induction n with
  | zero => intro _ _ M r h; cases h
  | succ n hself =>
    intro l2 l5 M r h
    rw [b_Search_fewestFalse_L42] at h
    refine i_rs 2 (cf' := (46, [some (.ref 22), some (.int l1), some (.int l2), some (.int l3), some (.int l4), some (.int l5), none, none], [.int l4, .int l5], i_S X M)) rfl ?_
    by_cases c6 : l5 < l4
    · replace h := (if_pos c6).symm.trans h
      refine i_rbT (c := l5 < l4) (t := 49) (n := 95) rfl c6 ?_
      refine i_rs 3 (cf' := (53, [some (.ref 22), some (.int l1), some (.int l2), some (.int l3), some (.int l4), some (.int l5), none, none], [.int l5, .int l3, .ref 22], i_S X M)) rfl ?_
      obtain ⟨q7, hq7, h⟩ := i_bdE h
      refine i_rcall (k := 104) (as := [.ref 22, .int l3, .int l5]) (cf1 := (56, [some (.ref 22), some (.int l1), some (.int l2), some (.int l3), some (.int l4), some (.int l5), none, none], [], i_S X M)) (cf' := (56, [some (.ref 22), some (.int l1), some (.int l2), some (.int l3), some (.int l4), some (.int l5), none, none], [.int q7.1], i_S X q7.2)) rfl (ok_b_Search_falseBits (by omega) hq7) rfl ?_
      refine i_rs 2 (cf' := (59, [some (.ref 22), some (.int l1), some (.int l2), some (.int l3), some (.int l4), some (.int l5), some (.int q7.1), none], [.int l2], i_S X q7.2)) rfl ?_
      obtain ⟨q8, hq8, h⟩ := i_bdE h
      refine i_rcall (k := 105) (as := [.int l2]) (cf1 := (62, [some (.ref 22), some (.int l1), some (.int l2), some (.int l3), some (.int l4), some (.int l5), some (.int q7.1), none], [], i_S X q7.2)) (cf' := (62, [some (.ref 22), some (.int l1), some (.int l2), some (.int l3), some (.int l4), some (.int l5), some (.int q7.1), none], [.int q8.1], i_S X q8.2)) rfl (ok_j_bitCount (by omega) hq8) rfl ?_
      refine i_rs 1 (cf' := (64, [some (.ref 22), some (.int l1), some (.int l2), some (.int l3), some (.int l4), some (.int l5), some (.int q7.1), none], [.int q7.1, .int q8.1], i_S X q8.2)) rfl ?_
      obtain ⟨q9, hq9, h⟩ := i_bdE h
      refine i_rcall (k := 105) (as := [.int q7.1]) (cf1 := (67, [some (.ref 22), some (.int l1), some (.int l2), some (.int l3), some (.int l4), some (.int l5), some (.int q7.1), none], [.int q8.1], i_S X q8.2)) (cf' := (67, [some (.ref 22), some (.int l1), some (.int l2), some (.int l3), some (.int l4), some (.int l5), some (.int q7.1), none], [.int q9.1, .int q8.1], i_S X q9.2)) rfl (ok_j_bitCount (by omega) hq9) rfl ?_
      refine i_rs 3 (cf' := (72, [some (.ref 22), some (.int l1), some (.int l2), some (.int l3), some (.int l4), some (.int l5), some (.int q7.1), some (.int (q8.1 - q9.1))], [.int (q8.1 - q9.1)], i_S X q9.2)) rfl ?_
      by_cases c10 : (0 : Int32) < (q8.1 - q9.1)
      · replace h := (if_pos c10).symm.trans h
        refine i_rbT (c := (0 : Int32) < (q8.1 - q9.1)) (t := 86) (n := 75) rfl c10 ?_
        refine i_rs 4 (cf' := (42, [some (.ref 22), some (.int l1), some (.int q7.1), some (.int l3), some (.int l4), some (.int (l5 + (1 : Int32))), some (.int q7.1), some (.int (q8.1 - q9.1))], [], i_S X q9.2)) rfl ?_
        refine i_fg (lv' := [some (.ref 22), some (.int l1), some (.int q7.1), some (.int l3), some (.int l4), some (.int (l5 + (1 : Int32))), none, none]) (And.intro rfl (And.intro rfl (And.intro rfl (And.intro rfl (And.intro rfl (And.intro rfl True.intro)))))) ?_
        exact hself q7.1 (l5 + (1 : Int32)) q9.2 _ h
      · replace h := (if_neg c10).symm.trans h
        refine i_rbF (c := (0 : Int32) < (q8.1 - q9.1)) (t := 86) (n := 75) rfl c10 ?_
        refine i_rs 1 (cf' := (77, [some (.ref 22), some (.int l1), some (.int l2), some (.int l3), some (.int l4), some (.int l5), some (.int q7.1), some (.int (q8.1 - q9.1))], [.int (q8.1 - q9.1)], i_S X q9.2)) rfl ?_
        by_cases c11 : (q8.1 - q9.1) = (0 : Int32)
        · replace h := (if_pos c11).symm.trans h
          refine i_rbT (c := (q8.1 - q9.1) = (0 : Int32)) (t := 80) (n := 89) rfl c11 ?_
          refine i_rs 2 (cf' := (83, [some (.ref 22), some (.int l1), some (.int l2), some (.int l3), some (.int l4), some (.int l5), some (.int q7.1), some (.int (q8.1 - q9.1))], [.int l2, .int q7.1], i_S X q9.2)) rfl ?_
          by_cases c12 : q7.1 < l2
          · replace h := (if_pos c12).symm.trans h
            refine i_rbT (c := q7.1 < l2) (t := 86) (n := 89) rfl c12 ?_
            refine i_rs 4 (cf' := (42, [some (.ref 22), some (.int l1), some (.int q7.1), some (.int l3), some (.int l4), some (.int (l5 + (1 : Int32))), some (.int q7.1), some (.int (q8.1 - q9.1))], [], i_S X q9.2)) rfl ?_
            refine i_fg (lv' := [some (.ref 22), some (.int l1), some (.int q7.1), some (.int l3), some (.int l4), some (.int (l5 + (1 : Int32))), none, none]) (And.intro rfl (And.intro rfl (And.intro rfl (And.intro rfl (And.intro rfl (And.intro rfl True.intro)))))) ?_
            exact hself q7.1 (l5 + (1 : Int32)) q9.2 _ h
          · replace h := (if_neg c12).symm.trans h
            refine i_rbF (c := q7.1 < l2) (t := 86) (n := 89) rfl c12 ?_
            refine i_rs 2 (cf' := (42, [some (.ref 22), some (.int l1), some (.int l2), some (.int l3), some (.int l4), some (.int (l5 + (1 : Int32))), some (.int q7.1), some (.int (q8.1 - q9.1))], [], i_S X q9.2)) rfl ?_
            refine i_fg (lv' := [some (.ref 22), some (.int l1), some (.int l2), some (.int l3), some (.int l4), some (.int (l5 + (1 : Int32))), none, none]) (And.intro rfl (And.intro rfl (And.intro rfl (And.intro rfl (And.intro rfl (And.intro rfl True.intro)))))) ?_
            exact hself l2 (l5 + (1 : Int32)) q9.2 _ h
        · replace h := (if_neg c11).symm.trans h
          refine i_rbF (c := (q8.1 - q9.1) = (0 : Int32)) (t := 80) (n := 89) rfl c11 ?_
          refine i_rs 2 (cf' := (42, [some (.ref 22), some (.int l1), some (.int l2), some (.int l3), some (.int l4), some (.int (l5 + (1 : Int32))), some (.int q7.1), some (.int (q8.1 - q9.1))], [], i_S X q9.2)) rfl ?_
          refine i_fg (lv' := [some (.ref 22), some (.int l1), some (.int l2), some (.int l3), some (.int l4), some (.int (l5 + (1 : Int32))), none, none]) (And.intro rfl (And.intro rfl (And.intro rfl (And.intro rfl (And.intro rfl (And.intro rfl True.intro)))))) ?_
          exact hself l2 (l5 + (1 : Int32)) q9.2 _ h
    · replace h := (if_neg c6).symm.trans h
      refine i_rbF (c := l5 < l4) (t := 49) (n := 95) rfl c6 ?_
      refine i_fg (lv' := [some (.ref 22), some (.int l1), some (.int l2), some (.int l3), none, none, none, none]) (And.intro rfl (And.intro rfl (And.intro rfl (And.intro rfl True.intro)))) ?_
      exact hk95 l2 M _ h
def b_Search_fewestFalse_L18 (l1 : Int32) : Nat → Int32 → Int32 → I_M → Option (Int32 × I_M)
  | 0, _, _, _ => none
  | n + 1, l2, l3, M =>
    Option.bind (b_Search_places M) (fun q1 => (if l3 < q1.1 then
        Option.bind (b_Search_secondsEnd l1 l3 q1.2) (fun q3 => Option.bind (b_Search_seconds l1 l3 q3.2) (fun q4 => b_Search_fewestFalse_L42 l1 l3 q3.1 (fun l2_5 M5 =>
            (b_Search_fewestFalse_L18 l1 n) l2_5 (l3 + (1 : Int32)) M5) i_F l2 q4.1 q4.2))
      else
        some (l2, q1.2)))
theorem ok_b_Search_fewestFalse_L18 {X : Nat × (Nat → Int32)} {d : Nat} {l1 : Int32} (hd : 6 ≤ d + 1) : ∀ (n : Nat) (l2 : Int32) (l3 : Int32) (M : I_M) (r : (Int32 × I_M)), b_Search_fewestFalse_L18 l1 n l2 l3 M = some r → I_RnE (I_Ex d) i_c103 (18, [some (.ref 22), some (.int l1), some (.int l2), some (.int l3), none, none, none, none], [], i_S X M) (some (.int r.1)) (i_S X r.2) := by
  intro n
  induction n with
  | zero => intro _ _ M r h; cases h
  | succ n hself =>
    intro l2 l3 M r h
    rw [b_Search_fewestFalse_L18] at h
    refine i_rs 2 (cf' := (20, [some (.ref 22), some (.int l1), some (.int l2), some (.int l3), none, none, none, none], [.ref 22, .int l3], i_S X M)) rfl ?_
    obtain ⟨q1, hq1, h⟩ := i_bdE h
    refine i_rcall (k := 84) (as := [.ref 22]) (cf1 := (23, [some (.ref 22), some (.int l1), some (.int l2), some (.int l3), none, none, none, none], [.int l3], i_S X M)) (cf' := (23, [some (.ref 22), some (.int l1), some (.int l2), some (.int l3), none, none, none, none], [.int q1.1, .int l3], i_S X q1.2)) rfl (ok_b_Search_places (by omega) hq1) rfl ?_
    by_cases c2 : l3 < q1.1
    · replace h := (if_pos c2).symm.trans h
      refine i_rbT (c := l3 < q1.1) (t := 26) (n := 101) rfl c2 ?_
      refine i_rs 3 (cf' := (29, [some (.ref 22), some (.int l1), some (.int l2), some (.int l3), none, none, none, none], [.int l3, .int l1, .ref 22], i_S X q1.2)) rfl ?_
      obtain ⟨q3, hq3, h⟩ := i_bdE h
      refine i_rcall (k := 85) (as := [.ref 22, .int l1, .int l3]) (cf1 := (32, [some (.ref 22), some (.int l1), some (.int l2), some (.int l3), none, none, none, none], [], i_S X q1.2)) (cf' := (32, [some (.ref 22), some (.int l1), some (.int l2), some (.int l3), none, none, none, none], [.int q3.1], i_S X q3.2)) rfl (ok_b_Search_secondsEnd (by omega) hq3) rfl ?_
      refine i_rs 4 (cf' := (37, [some (.ref 22), some (.int l1), some (.int l2), some (.int l3), some (.int q3.1), none, none, none], [.int l3, .int l1, .ref 22], i_S X q3.2)) rfl ?_
      obtain ⟨q4, hq4, h⟩ := i_bdE h
      refine i_rcall (k := 86) (as := [.ref 22, .int l1, .int l3]) (cf1 := (40, [some (.ref 22), some (.int l1), some (.int l2), some (.int l3), some (.int q3.1), none, none, none], [], i_S X q3.2)) (cf' := (40, [some (.ref 22), some (.int l1), some (.int l2), some (.int l3), some (.int q3.1), none, none, none], [.int q4.1], i_S X q4.2)) rfl (ok_b_Search_seconds (by omega) hq4) rfl ?_
      refine i_rs 1 (cf' := (42, [some (.ref 22), some (.int l1), some (.int l2), some (.int l3), some (.int q3.1), some (.int q4.1), none, none], [], i_S X q4.2)) rfl ?_
      refine i_fg (lv' := [some (.ref 22), some (.int l1), some (.int l2), some (.int l3), some (.int q3.1), some (.int q4.1), none, none]) (And.intro rfl (And.intro rfl (And.intro rfl (And.intro rfl (And.intro rfl (And.intro rfl True.intro)))))) ?_
      refine ok_b_Search_fewestFalse_L42 (by omega) (fun l2_5 M5 r h => ?_) i_F l2 q4.1 q4.2 _ h
      refine i_rs 2 (cf' := (18, [some (.ref 22), some (.int l1), some (.int l2_5), some (.int (l3 + (1 : Int32))), none, none, none, none], [], i_S X M5)) rfl ?_
      refine i_fg (lv' := [some (.ref 22), some (.int l1), some (.int l2_5), some (.int (l3 + (1 : Int32))), none, none, none, none]) (And.intro rfl (And.intro rfl (And.intro rfl (And.intro rfl True.intro)))) ?_
      exact hself l2_5 (l3 + (1 : Int32)) M5 _ h
    · replace h := (if_neg c2).symm.trans h
      refine i_rbF (c := l3 < q1.1) (t := 26) (n := 101) rfl c2 ?_
      refine i_rs 1 (cf' := (102, [some (.ref 22), some (.int l1), some (.int l2), some (.int l3), none, none, none, none], [.int l2], i_S X q1.2)) rfl ?_
      obtain rfl := Option.some.inj h
      exact i_rret rfl rfl
def b_Search_fewestFalse (l1 : Int32) (M : I_M) : Option (Int32 × I_M) :=
  Option.bind (b_Search_listen M) (fun q13 => b_Search_fewestFalse_L18 l1 i_F (((1 : Int32) <<< ((q13.1 18 3) &&& 31)) - (1 : Int32)) (0 : Int32) q13)
theorem ok_b_Search_fewestFalse {X : Nat × (Nat → Int32)} {d : Nat} {l1 : Int32} {M : I_M} {r : (Int32 × I_M)} (hd : 6 ≤ d) (h : b_Search_fewestFalse l1 M = some r) : I_Ex d 103 [.ref 22, .int l1] (i_S X M) (some (.int r.1)) (i_S X r.2) := by
  obtain ⟨d, rfl⟩ : ∃ d1, d = d1 + 1 := ⟨d - 1, by omega⟩
  unfold b_Search_fewestFalse at h
  refine i_ex (e := i_r103) (lv := [some (.ref 22), some (.int l1), none, none, none, none, none, none]) rfl (Nat.le_of_ble_eq_true rfl) rfl ?_
  show I_RnE (I_Ex d) i_c103 (0, [some (.ref 22), some (.int l1), none, none, none, none, none, none], [], i_S X M) _ _
  refine i_rs 1 (cf' := (1, [some (.ref 22), some (.int l1), none, none, none, none, none, none], [.ref 22], i_S X M)) rfl ?_
  obtain ⟨q13, hq13, h⟩ := i_bdE h
  refine i_rcall (k := 83) (as := [.ref 22]) (cf1 := (4, [some (.ref 22), some (.int l1), none, none, none, none, none, none], [], i_S X M)) (cf' := (4, [some (.ref 22), some (.int l1), none, none, none, none, none, none], [], i_S X q13)) rfl (ok_b_Search_listen (by omega) hq13) rfl ?_
  refine i_rs 10 (cf' := (18, [some (.ref 22), some (.int l1), some (.int (((1 : Int32) <<< ((q13.1 18 3) &&& 31)) - (1 : Int32))), some (.int (0 : Int32)), none, none, none, none], [], i_S X q13)) rfl ?_
  refine i_fg (lv' := [some (.ref 22), some (.int l1), some (.int (((1 : Int32) <<< ((q13.1 18 3) &&& 31)) - (1 : Int32))), some (.int (0 : Int32)), none, none, none, none]) (And.intro rfl (And.intro rfl (And.intro rfl (And.intro rfl True.intro)))) ?_
  refine ok_b_Search_fewestFalse_L18 (by omega) i_F (((1 : Int32) <<< ((q13.1 18 3) &&& 31)) - (1 : Int32)) (0 : Int32) q13 _ h
def b_liars (l1 : Int32) (M : I_M) : Option (Int32 × I_M) :=
  Option.bind (b_isSize l1 M) (fun q1 => (if q1.1 = (0 : Int32) then
      some ((-1 : Int32), q1.2)
    else
      Option.bind (b_Land_cells q1.2) (fun q3 => (if q3.1 < l1 then
        some ((-2 : Int32), q3.2)
      else
        Option.bind (b_Search_fewestFalse l1 q3.2) (fun q5 => some (q5.1, q5.2))))))
theorem ok_b_liars {X : Nat × (Nat → Int32)} {d : Nat} {l1 : Int32} {M : I_M} {r : (Int32 × I_M)} (hd : 7 ≤ d) (h : b_liars l1 M = some r) : I_Ex d 102 [.ref 0, .int l1] (i_S X M) (some (.int r.1)) (i_S X r.2) := by
  obtain ⟨d, rfl⟩ : ∃ d1, d = d1 + 1 := ⟨d - 1, by omega⟩
  unfold b_liars at h
  refine i_ex (e := i_r102) (lv := [some (.ref 0), some (.int l1)]) rfl (Nat.le_of_ble_eq_true rfl) rfl ?_
  show I_RnE (I_Ex d) i_c102 (0, [some (.ref 0), some (.int l1)], [], i_S X M) _ _
  refine i_rs 1 (cf' := (1, [some (.ref 0), some (.int l1)], [.int l1], i_S X M)) rfl ?_
  obtain ⟨q1, hq1, h⟩ := i_bdE h
  refine i_rcall (k := 81) (as := [.int l1]) (cf1 := (4, [some (.ref 0), some (.int l1)], [], i_S X M)) (cf' := (4, [some (.ref 0), some (.int l1)], [.int q1.1], i_S X q1.2)) rfl (ok_b_isSize (by omega) hq1) rfl ?_
  by_cases c2 : q1.1 = (0 : Int32)
  · replace h := (if_pos c2).symm.trans h
    refine i_rbT (c := q1.1 = (0 : Int32)) (t := 7) (n := 9) rfl c2 ?_
    refine i_rs 1 (cf' := (8, [some (.ref 0), some (.int l1)], [.int (-1 : Int32)], i_S X q1.2)) rfl ?_
    obtain rfl := Option.some.inj h
    exact i_rret rfl rfl
  · replace h := (if_neg c2).symm.trans h
    refine i_rbF (c := q1.1 = (0 : Int32)) (t := 7) (n := 9) rfl c2 ?_
    refine i_rs 2 (cf' := (13, [some (.ref 0), some (.int l1)], [.ref 1], i_S X q1.2)) rfl ?_
    obtain ⟨q3, hq3, h⟩ := i_bdE h
    refine i_rcall (k := 21) (as := [.ref 1]) (cf1 := (16, [some (.ref 0), some (.int l1)], [], i_S X q1.2)) (cf' := (16, [some (.ref 0), some (.int l1)], [.int q3.1], i_S X q3.2)) rfl (ok_b_Land_cells (by omega) hq3) rfl ?_
    refine i_rs 1 (cf' := (17, [some (.ref 0), some (.int l1)], [.int l1, .int q3.1], i_S X q3.2)) rfl ?_
    by_cases c4 : q3.1 < l1
    · replace h := (if_pos c4).symm.trans h
      refine i_rbT (c := q3.1 < l1) (t := 20) (n := 25) rfl c4 ?_
      refine i_rs 2 (cf' := (33, [some (.ref 0), some (.int l1)], [.int (-2 : Int32)], i_S X q3.2)) rfl ?_
      obtain rfl := Option.some.inj h
      exact i_rret rfl rfl
    · replace h := (if_neg c4).symm.trans h
      refine i_rbF (c := q3.1 < l1) (t := 20) (n := 25) rfl c4 ?_
      refine i_rs 3 (cf' := (30, [some (.ref 0), some (.int l1)], [.int l1, .ref 22], i_S X q3.2)) rfl ?_
      obtain ⟨q5, hq5, h⟩ := i_bdE h
      refine i_rcall (k := 103) (as := [.ref 22, .int l1]) (cf1 := (33, [some (.ref 0), some (.int l1)], [], i_S X q3.2)) (cf' := (33, [some (.ref 0), some (.int l1)], [.int q5.1], i_S X q5.2)) rfl (ok_b_Search_fewestFalse (by omega) hq5) rfl ?_
      obtain rfl := Option.some.inj h
      exact i_rret rfl rfl
def r_liars (l1 : Int32) (M : I_M) : Option (Int32 × I_M) :=
  Option.bind (r_isN l1 M) (fun q1 => (if q1.1 = (0 : Int32) then
      some ((-1 : Int32), q1.2)
    else
      Option.bind (r_goesThrough l1 (0 : Int32) q1.2) (fun q3 => some ((q3.1 50 33), q3))))
theorem ok_r_liars {X : Nat × (Nat → Int32)} {d : Nat} {l1 : Int32} {M : I_M} {r : (Int32 × I_M)} (hd : 70 ≤ d) (h : r_liars l1 M = some r) : I_Ex d 226 [.ref 50, .int l1] (i_S X M) (some (.int r.1)) (i_S X r.2) := by
  obtain ⟨d, rfl⟩ : ∃ d1, d = d1 + 1 := ⟨d - 1, by omega⟩
  unfold r_liars at h
  refine i_ex (e := i_r226) (lv := [some (.ref 50), some (.int l1)]) rfl (Nat.le_of_ble_eq_true rfl) rfl ?_
  show I_RnE (I_Ex d) i_c226 (0, [some (.ref 50), some (.int l1)], [], i_S X M) _ _
  refine i_rs 1 (cf' := (1, [some (.ref 50), some (.int l1)], [.int l1], i_S X M)) rfl ?_
  obtain ⟨q1, hq1, h⟩ := i_bdE h
  refine i_rcall (k := 213) (as := [.int l1]) (cf1 := (4, [some (.ref 50), some (.int l1)], [], i_S X M)) (cf' := (4, [some (.ref 50), some (.int l1)], [.int q1.1], i_S X q1.2)) rfl (ok_r_isN (by omega) hq1) rfl ?_
  by_cases c2 : q1.1 = (0 : Int32)
  · replace h := (if_pos c2).symm.trans h
    refine i_rbT (c := q1.1 = (0 : Int32)) (t := 7) (n := 9) rfl c2 ?_
    refine i_rs 1 (cf' := (8, [some (.ref 50), some (.int l1)], [.int (-1 : Int32)], i_S X q1.2)) rfl ?_
    obtain rfl := Option.some.inj h
    exact i_rret rfl rfl
  · replace h := (if_neg c2).symm.trans h
    refine i_rbF (c := q1.1 = (0 : Int32)) (t := 7) (n := 9) rfl c2 ?_
    refine i_rs 3 (cf' := (12, [some (.ref 50), some (.int l1)], [.int (0 : Int32), .int l1, .ref 50], i_S X q1.2)) rfl ?_
    obtain ⟨q3, hq3, h⟩ := i_bdE h
    refine i_rcall (k := 214) (as := [.ref 50, .int l1, .int (0 : Int32)]) (cf1 := (15, [some (.ref 50), some (.int l1)], [], i_S X q1.2)) (cf' := (15, [some (.ref 50), some (.int l1)], [], i_S X q3)) rfl (ok_r_goesThrough (by omega) hq3) rfl ?_
    refine i_rs 2 (cf' := (19, [some (.ref 50), some (.int l1)], [.int (q3.1 50 33)], i_S X q3)) rfl ?_
    obtain rfl := Option.some.inj h
    exact i_rret rfl rfl
def b_Links_doesShow (l1 : Int32) (l2 : Int32) (M : I_M) : Option (Int32 × I_M) :=
  i_g l1 6 (i_let (((100 : Int32) * (M.1 15 (Int32.toNatClampNeg l1))) + (M.1 14 (Int32.toNatClampNeg l1))) (fun x2 => i_g l2 6 (Option.bind (b_Buried_humOf l2 x2 (M.1 14 (Int32.toNatClampNeg l2)) M) (fun q4 => Option.bind (b_Law_heardOf q4.1 q4.2) (fun q5 => (if q5.1 = (0 : Int32) then
      some ((0 : Int32), q5.2)
    else
      some ((1 : Int32), q5.2)))))))
theorem ok_b_Links_doesShow {X : Nat × (Nat → Int32)} {d : Nat} {l1 : Int32} {l2 : Int32} {M : I_M} {r : (Int32 × I_M)} (hd : 6 ≤ d) (h : b_Links_doesShow l1 l2 M = some r) : I_Ex d 107 [.ref 28, .int l1, .int l2] (i_S X M) (some (.int r.1)) (i_S X r.2) := by
  obtain ⟨d, rfl⟩ : ∃ d1, d = d1 + 1 := ⟨d - 1, by omega⟩
  unfold b_Links_doesShow at h
  refine i_ex (e := i_r107) (lv := [some (.ref 28), some (.int l1), some (.int l2), none]) rfl (Nat.le_of_ble_eq_true rfl) rfl ?_
  show I_RnE (I_Ex d) i_c107 (0, [some (.ref 28), some (.int l1), some (.int l2), none], [], i_S X M) _ _
  refine i_rs 5 (cf' := (10, [some (.ref 28), some (.int l1), some (.int l2), none], [.int l1, .ref 15, .int (100 : Int32)], i_S X M)) rfl ?_
  obtain ⟨g1, h⟩ := i_gE h
  refine i_riald (n := 6) (cf' := (11, [some (.ref 28), some (.int l1), some (.int l2), none], [.int (M.1 15 (Int32.toNatClampNeg l1)), .int (100 : Int32)], i_S X M)) rfl rfl (by decide) g1 rfl ?_
  refine i_rs 5 (cf' := (20, [some (.ref 28), some (.int l1), some (.int l2), none], [.int l1, .ref 14, .int ((100 : Int32) * (M.1 15 (Int32.toNatClampNeg l1)))], i_S X M)) rfl ?_
  refine i_riald (n := 6) (cf' := (21, [some (.ref 28), some (.int l1), some (.int l2), none], [.int (M.1 14 (Int32.toNatClampNeg l1)), .int ((100 : Int32) * (M.1 15 (Int32.toNatClampNeg l1)))], i_S X M)) rfl rfl (by decide) g1 rfl ?_
  refine i_rs 1 (cf' := (22, [some (.ref 28), some (.int l1), some (.int l2), none], [.int (((100 : Int32) * (M.1 15 (Int32.toNatClampNeg l1))) + (M.1 14 (Int32.toNatClampNeg l1)))], i_S X M)) rfl ?_
  obtain ⟨x2, ex2, h⟩ := i_letE h
  refine i_cfe (cf' := (22, [some (.ref 28), some (.int l1), some (.int l2), none], [.int x2], i_S X M)) (by rw [ex2]) ?_
  refine i_rs 11 (cf' := (41, [some (.ref 28), some (.int l1), some (.int l2), some (.int x2)], [.int l2, .ref 14, .int x2, .int l2, .ref 13, .ref 9], i_S X M)) rfl ?_
  obtain ⟨g3, h⟩ := i_gE h
  refine i_riald (n := 6) (cf' := (42, [some (.ref 28), some (.int l1), some (.int l2), some (.int x2)], [.int (M.1 14 (Int32.toNatClampNeg l2)), .int x2, .int l2, .ref 13, .ref 9], i_S X M)) rfl rfl (by decide) g3 rfl ?_
  obtain ⟨q4, hq4, h⟩ := i_bdE h
  refine i_rcall (k := 66) (as := [.ref 13, .int l2, .int x2, .int (M.1 14 (Int32.toNatClampNeg l2))]) (cf1 := (45, [some (.ref 28), some (.int l1), some (.int l2), some (.int x2)], [.ref 9], i_S X M)) (cf' := (45, [some (.ref 28), some (.int l1), some (.int l2), some (.int x2)], [.int q4.1, .ref 9], i_S X q4.2)) rfl (ok_b_Buried_humOf (by omega) hq4) rfl ?_
  obtain ⟨q5, hq5, h⟩ := i_bdE h
  refine i_rcall (k := 76) (as := [.ref 9, .int q4.1]) (cf1 := (48, [some (.ref 28), some (.int l1), some (.int l2), some (.int x2)], [], i_S X q4.2)) (cf' := (48, [some (.ref 28), some (.int l1), some (.int l2), some (.int x2)], [.int q5.1], i_S X q5.2)) rfl (ok_b_Law_heardOf (by omega) hq5) rfl ?_
  by_cases c6 : q5.1 = (0 : Int32)
  · replace h := (if_pos c6).symm.trans h
    refine i_rbT (c := q5.1 = (0 : Int32)) (t := 55) (n := 51) rfl c6 ?_
    refine i_rs 1 (cf' := (56, [some (.ref 28), some (.int l1), some (.int l2), some (.int x2)], [.int (0 : Int32)], i_S X q5.2)) rfl ?_
    obtain rfl := Option.some.inj h
    exact i_rretZ rfl (Or.inl rfl) rfl
  · replace h := (if_neg c6).symm.trans h
    refine i_rbF (c := q5.1 = (0 : Int32)) (t := 55) (n := 51) rfl c6 ?_
    refine i_rs 2 (cf' := (56, [some (.ref 28), some (.int l1), some (.int l2), some (.int x2)], [.int (1 : Int32)], i_S X q5.2)) rfl ?_
    obtain rfl := Option.some.inj h
    exact i_rretZ rfl (Or.inr rfl) rfl
def b_shows (l1 : Int32) (M : I_M) : Option (Int32 × I_M) :=
  (if l1 < (0 : Int32) then
      some ((-1 : Int32), M)
    else
      Option.bind (b_Buried_has (l1 / (10 : Int32)) M) (fun q2 => (if q2.1 = (0 : Int32) then
        some ((-1 : Int32), q2.2)
      else
        Option.bind (b_Buried_has (i_rem l1 (10 : Int32)) q2.2) (fun q4 => (if q4.1 = (0 : Int32) then
          some ((-1 : Int32), q4.2)
        else
          (if (l1 / (10 : Int32)) = (i_rem l1 (10 : Int32)) then
            some ((-1 : Int32), q4.2)
          else
            Option.bind (b_Links_doesShow (l1 / (10 : Int32)) (i_rem l1 (10 : Int32)) q4.2) (fun q7 => (if q7.1 = (0 : Int32) then
              some ((0 : Int32), q7.2)
            else
              some ((1 : Int32), q7.2)))))))))
theorem ok_b_shows {X : Nat × (Nat → Int32)} {d : Nat} {l1 : Int32} {M : I_M} {r : (Int32 × I_M)} (hd : 7 ≤ d) (h : b_shows l1 M = some r) : I_Ex d 106 [.ref 0, .int l1] (i_S X M) (some (.int r.1)) (i_S X r.2) := by
  obtain ⟨d, rfl⟩ : ∃ d1, d = d1 + 1 := ⟨d - 1, by omega⟩
  unfold b_shows at h
  refine i_ex (e := i_r106) (lv := [some (.ref 0), some (.int l1), none, none]) rfl (Nat.le_of_ble_eq_true rfl) rfl ?_
  show I_RnE (I_Ex d) i_c106 (0, [some (.ref 0), some (.int l1), none, none], [], i_S X M) _ _
  refine i_rs 2 (cf' := (3, [some (.ref 0), some (.int l1), none, none], [.int (10 : Int32), .int l1], i_S X M)) rfl ?_
  refine i_rdiv (cf' := (4, [some (.ref 0), some (.int l1), none, none], [.int (l1 / (10 : Int32))], i_S X M)) rfl (by decide) rfl ?_
  refine i_rs 3 (cf' := (8, [some (.ref 0), some (.int l1), some (.int (l1 / (10 : Int32))), none], [.int (10 : Int32), .int l1], i_S X M)) rfl ?_
  refine i_rrem (cf' := (9, [some (.ref 0), some (.int l1), some (.int (l1 / (10 : Int32))), none], [.int (i_rem l1 (10 : Int32))], i_S X M)) rfl (by decide) rfl ?_
  refine i_rs 2 (cf' := (11, [some (.ref 0), some (.int l1), some (.int (l1 / (10 : Int32))), some (.int (i_rem l1 (10 : Int32)))], [.int l1], i_S X M)) rfl ?_
  by_cases c1 : l1 < (0 : Int32)
  · replace h := (if_pos c1).symm.trans h
    refine i_rbT (c := l1 < (0 : Int32)) (t := 41) (n := 14) rfl c1 ?_
    refine i_rs 1 (cf' := (42, [some (.ref 0), some (.int l1), some (.int (l1 / (10 : Int32))), some (.int (i_rem l1 (10 : Int32)))], [.int (-1 : Int32)], i_S X M)) rfl ?_
    obtain rfl := Option.some.inj h
    exact i_rret rfl rfl
  · replace h := (if_neg c1).symm.trans h
    refine i_rbF (c := l1 < (0 : Int32)) (t := 41) (n := 14) rfl c1 ?_
    refine i_rs 3 (cf' := (19, [some (.ref 0), some (.int l1), some (.int (l1 / (10 : Int32))), some (.int (i_rem l1 (10 : Int32)))], [.int (l1 / (10 : Int32)), .ref 13], i_S X M)) rfl ?_
    obtain ⟨q2, hq2, h⟩ := i_bdE h
    refine i_rcall (k := 30) (as := [.ref 13, .int (l1 / (10 : Int32))]) (cf1 := (22, [some (.ref 0), some (.int l1), some (.int (l1 / (10 : Int32))), some (.int (i_rem l1 (10 : Int32)))], [], i_S X M)) (cf' := (22, [some (.ref 0), some (.int l1), some (.int (l1 / (10 : Int32))), some (.int (i_rem l1 (10 : Int32)))], [.int q2.1], i_S X q2.2)) rfl (ok_b_Buried_has (by omega) hq2) rfl ?_
    by_cases c3 : q2.1 = (0 : Int32)
    · replace h := (if_pos c3).symm.trans h
      refine i_rbT (c := q2.1 = (0 : Int32)) (t := 41) (n := 25) rfl c3 ?_
      refine i_rs 1 (cf' := (42, [some (.ref 0), some (.int l1), some (.int (l1 / (10 : Int32))), some (.int (i_rem l1 (10 : Int32)))], [.int (-1 : Int32)], i_S X q2.2)) rfl ?_
      obtain rfl := Option.some.inj h
      exact i_rret rfl rfl
    · replace h := (if_neg c3).symm.trans h
      refine i_rbF (c := q2.1 = (0 : Int32)) (t := 41) (n := 25) rfl c3 ?_
      refine i_rs 3 (cf' := (30, [some (.ref 0), some (.int l1), some (.int (l1 / (10 : Int32))), some (.int (i_rem l1 (10 : Int32)))], [.int (i_rem l1 (10 : Int32)), .ref 13], i_S X q2.2)) rfl ?_
      obtain ⟨q4, hq4, h⟩ := i_bdE h
      refine i_rcall (k := 30) (as := [.ref 13, .int (i_rem l1 (10 : Int32))]) (cf1 := (33, [some (.ref 0), some (.int l1), some (.int (l1 / (10 : Int32))), some (.int (i_rem l1 (10 : Int32)))], [], i_S X q2.2)) (cf' := (33, [some (.ref 0), some (.int l1), some (.int (l1 / (10 : Int32))), some (.int (i_rem l1 (10 : Int32)))], [.int q4.1], i_S X q4.2)) rfl (ok_b_Buried_has (by omega) hq4) rfl ?_
      by_cases c5 : q4.1 = (0 : Int32)
      · replace h := (if_pos c5).symm.trans h
        refine i_rbT (c := q4.1 = (0 : Int32)) (t := 41) (n := 36) rfl c5 ?_
        refine i_rs 1 (cf' := (42, [some (.ref 0), some (.int l1), some (.int (l1 / (10 : Int32))), some (.int (i_rem l1 (10 : Int32)))], [.int (-1 : Int32)], i_S X q4.2)) rfl ?_
        obtain rfl := Option.some.inj h
        exact i_rret rfl rfl
      · replace h := (if_neg c5).symm.trans h
        refine i_rbF (c := q4.1 = (0 : Int32)) (t := 41) (n := 36) rfl c5 ?_
        refine i_rs 2 (cf' := (38, [some (.ref 0), some (.int l1), some (.int (l1 / (10 : Int32))), some (.int (i_rem l1 (10 : Int32)))], [.int (i_rem l1 (10 : Int32)), .int (l1 / (10 : Int32))], i_S X q4.2)) rfl ?_
        by_cases c6 : (l1 / (10 : Int32)) = (i_rem l1 (10 : Int32))
        · replace h := (if_pos c6).symm.trans h
          refine i_rbT (c := (l1 / (10 : Int32)) = (i_rem l1 (10 : Int32))) (t := 41) (n := 43) rfl c6 ?_
          refine i_rs 1 (cf' := (42, [some (.ref 0), some (.int l1), some (.int (l1 / (10 : Int32))), some (.int (i_rem l1 (10 : Int32)))], [.int (-1 : Int32)], i_S X q4.2)) rfl ?_
          obtain rfl := Option.some.inj h
          exact i_rret rfl rfl
        · replace h := (if_neg c6).symm.trans h
          refine i_rbF (c := (l1 / (10 : Int32)) = (i_rem l1 (10 : Int32))) (t := 41) (n := 43) rfl c6 ?_
          refine i_rs 4 (cf' := (49, [some (.ref 0), some (.int l1), some (.int (l1 / (10 : Int32))), some (.int (i_rem l1 (10 : Int32)))], [.int (i_rem l1 (10 : Int32)), .int (l1 / (10 : Int32)), .ref 28], i_S X q4.2)) rfl ?_
          obtain ⟨q7, hq7, h⟩ := i_bdE h
          refine i_rcall (k := 107) (as := [.ref 28, .int (l1 / (10 : Int32)), .int (i_rem l1 (10 : Int32))]) (cf1 := (52, [some (.ref 0), some (.int l1), some (.int (l1 / (10 : Int32))), some (.int (i_rem l1 (10 : Int32)))], [], i_S X q4.2)) (cf' := (52, [some (.ref 0), some (.int l1), some (.int (l1 / (10 : Int32))), some (.int (i_rem l1 (10 : Int32)))], [.int q7.1], i_S X q7.2)) rfl (ok_b_Links_doesShow (by omega) hq7) rfl ?_
          by_cases c8 : q7.1 = (0 : Int32)
          · replace h := (if_pos c8).symm.trans h
            refine i_rbT (c := q7.1 = (0 : Int32)) (t := 59) (n := 55) rfl c8 ?_
            refine i_rs 1 (cf' := (60, [some (.ref 0), some (.int l1), some (.int (l1 / (10 : Int32))), some (.int (i_rem l1 (10 : Int32)))], [.int (0 : Int32)], i_S X q7.2)) rfl ?_
            obtain rfl := Option.some.inj h
            exact i_rret rfl rfl
          · replace h := (if_neg c8).symm.trans h
            refine i_rbF (c := q7.1 = (0 : Int32)) (t := 59) (n := 55) rfl c8 ?_
            refine i_rs 2 (cf' := (60, [some (.ref 0), some (.int l1), some (.int (l1 / (10 : Int32))), some (.int (i_rem l1 (10 : Int32)))], [.int (1 : Int32)], i_S X q7.2)) rfl ?_
            obtain rfl := Option.some.inj h
            exact i_rret rfl rfl
def r_doesShow (l1 : Int32) (l2 : Int32) (M : I_M) : Option (Int32 × I_M) :=
  (if l1 = l2 then
      some ((0 : Int32), M)
    else
      i_g l1 6 (i_g l2 6 (Option.bind (r_humOfBell l2 (M.1 56 (Int32.toNatClampNeg l1)) (M.1 55 (Int32.toNatClampNeg l1)) (M.1 55 (Int32.toNatClampNeg l2)) M) (fun q4 => Option.bind (r_heardOf q4.1 q4.2) (fun q5 => (if (0 : Int32) < q5.1 then
        some ((1 : Int32), q5.2)
      else
        some ((0 : Int32), q5.2)))))))
theorem ok_r_doesShow {X : Nat × (Nat → Int32)} {d : Nat} {l1 : Int32} {l2 : Int32} {M : I_M} {r : (Int32 × I_M)} (hd : 69 ≤ d) (h : r_doesShow l1 l2 M = some r) : I_Ex d 228 [.ref 50, .int l1, .int l2] (i_S X M) (some (.int r.1)) (i_S X r.2) := by
  obtain ⟨d, rfl⟩ : ∃ d1, d = d1 + 1 := ⟨d - 1, by omega⟩
  unfold r_doesShow at h
  refine i_ex (e := i_r228) (lv := [some (.ref 50), some (.int l1), some (.int l2)]) rfl (Nat.le_of_ble_eq_true rfl) rfl ?_
  show I_RnE (I_Ex d) i_c228 (0, [some (.ref 50), some (.int l1), some (.int l2)], [], i_S X M) _ _
  refine i_rs 2 (cf' := (2, [some (.ref 50), some (.int l1), some (.int l2)], [.int l2, .int l1], i_S X M)) rfl ?_
  by_cases c1 : l1 = l2
  · replace h := (if_pos c1).symm.trans h
    refine i_rbT (c := l1 = l2) (t := 39) (n := 5) rfl c1 ?_
    refine i_rs 1 (cf' := (40, [some (.ref 50), some (.int l1), some (.int l2)], [.int (0 : Int32)], i_S X M)) rfl ?_
    obtain rfl := Option.some.inj h
    exact i_rretZ rfl (Or.inl rfl) rfl
  · replace h := (if_neg c1).symm.trans h
    refine i_rbF (c := l1 = l2) (t := 39) (n := 5) rfl c1 ?_
    refine i_rs 6 (cf' := (13, [some (.ref 50), some (.int l1), some (.int l2)], [.int l1, .ref 56, .int l2, .ref 50, .ref 50], i_S X M)) rfl ?_
    obtain ⟨g2, h⟩ := i_gE h
    refine i_riald (n := 6) (cf' := (14, [some (.ref 50), some (.int l1), some (.int l2)], [.int (M.1 56 (Int32.toNatClampNeg l1)), .int l2, .ref 50, .ref 50], i_S X M)) rfl rfl (by decide) g2 rfl ?_
    refine i_rs 3 (cf' := (19, [some (.ref 50), some (.int l1), some (.int l2)], [.int l1, .ref 55, .int (M.1 56 (Int32.toNatClampNeg l1)), .int l2, .ref 50, .ref 50], i_S X M)) rfl ?_
    refine i_riald (n := 6) (cf' := (20, [some (.ref 50), some (.int l1), some (.int l2)], [.int (M.1 55 (Int32.toNatClampNeg l1)), .int (M.1 56 (Int32.toNatClampNeg l1)), .int l2, .ref 50, .ref 50], i_S X M)) rfl rfl (by decide) g2 rfl ?_
    refine i_rs 3 (cf' := (25, [some (.ref 50), some (.int l1), some (.int l2)], [.int l2, .ref 55, .int (M.1 55 (Int32.toNatClampNeg l1)), .int (M.1 56 (Int32.toNatClampNeg l1)), .int l2, .ref 50, .ref 50], i_S X M)) rfl ?_
    obtain ⟨g3, h⟩ := i_gE h
    refine i_riald (n := 6) (cf' := (26, [some (.ref 50), some (.int l1), some (.int l2)], [.int (M.1 55 (Int32.toNatClampNeg l2)), .int (M.1 55 (Int32.toNatClampNeg l1)), .int (M.1 56 (Int32.toNatClampNeg l1)), .int l2, .ref 50, .ref 50], i_S X M)) rfl rfl (by decide) g3 rfl ?_
    obtain ⟨q4, hq4, h⟩ := i_bdE h
    refine i_rcall (k := 204) (as := [.ref 50, .int l2, .int (M.1 56 (Int32.toNatClampNeg l1)), .int (M.1 55 (Int32.toNatClampNeg l1)), .int (M.1 55 (Int32.toNatClampNeg l2))]) (cf1 := (29, [some (.ref 50), some (.int l1), some (.int l2)], [.ref 50], i_S X M)) (cf' := (29, [some (.ref 50), some (.int l1), some (.int l2)], [.int q4.1, .ref 50], i_S X q4.2)) rfl (ok_r_humOfBell (by omega) hq4) rfl ?_
    obtain ⟨q5, hq5, h⟩ := i_bdE h
    refine i_rcall (k := 209) (as := [.ref 50, .int q4.1]) (cf1 := (32, [some (.ref 50), some (.int l1), some (.int l2)], [], i_S X q4.2)) (cf' := (32, [some (.ref 50), some (.int l1), some (.int l2)], [.int q5.1], i_S X q5.2)) rfl (ok_r_heardOf (by omega) hq5) rfl ?_
    by_cases c6 : (0 : Int32) < q5.1
    · replace h := (if_pos c6).symm.trans h
      refine i_rbT (c := (0 : Int32) < q5.1) (t := 35) (n := 39) rfl c6 ?_
      refine i_rs 2 (cf' := (40, [some (.ref 50), some (.int l1), some (.int l2)], [.int (1 : Int32)], i_S X q5.2)) rfl ?_
      obtain rfl := Option.some.inj h
      exact i_rretZ rfl (Or.inr rfl) rfl
    · replace h := (if_neg c6).symm.trans h
      refine i_rbF (c := (0 : Int32) < q5.1) (t := 35) (n := 39) rfl c6 ?_
      refine i_rs 1 (cf' := (40, [some (.ref 50), some (.int l1), some (.int l2)], [.int (0 : Int32)], i_S X q5.2)) rfl ?_
      obtain rfl := Option.some.inj h
      exact i_rretZ rfl (Or.inl rfl) rfl
def r_shows (l1 : Int32) (M : I_M) : Option (Int32 × I_M) :=
  (if l1 < (0 : Int32) then
      some ((-1 : Int32), M)
    else
      Option.bind (r_isBell (l1 / (10 : Int32)) M) (fun q2 => (if q2.1 = (0 : Int32) then
        some ((-1 : Int32), q2.2)
      else
        Option.bind (r_isBell (i_rem l1 (10 : Int32)) q2.2) (fun q4 => (if q4.1 = (0 : Int32) then
          some ((-1 : Int32), q4.2)
        else
          (if (l1 / (10 : Int32)) = (i_rem l1 (10 : Int32)) then
            some ((-1 : Int32), q4.2)
          else
            Option.bind (r_doesShow (l1 / (10 : Int32)) (i_rem l1 (10 : Int32)) q4.2) (fun q7 => (if q7.1 = (0 : Int32) then
              some ((0 : Int32), q7.2)
            else
              some ((1 : Int32), q7.2)))))))))
theorem ok_r_shows {X : Nat × (Nat → Int32)} {d : Nat} {l1 : Int32} {M : I_M} {r : (Int32 × I_M)} (hd : 70 ≤ d) (h : r_shows l1 M = some r) : I_Ex d 227 [.ref 50, .int l1] (i_S X M) (some (.int r.1)) (i_S X r.2) := by
  obtain ⟨d, rfl⟩ : ∃ d1, d = d1 + 1 := ⟨d - 1, by omega⟩
  unfold r_shows at h
  refine i_ex (e := i_r227) (lv := [some (.ref 50), some (.int l1)]) rfl (Nat.le_of_ble_eq_true rfl) rfl ?_
  show I_RnE (I_Ex d) i_c227 (0, [some (.ref 50), some (.int l1)], [], i_S X M) _ _
  refine i_rs 1 (cf' := (1, [some (.ref 50), some (.int l1)], [.int l1], i_S X M)) rfl ?_
  by_cases c1 : l1 < (0 : Int32)
  · replace h := (if_pos c1).symm.trans h
    refine i_rbT (c := l1 < (0 : Int32)) (t := 37) (n := 4) rfl c1 ?_
    refine i_rs 1 (cf' := (38, [some (.ref 50), some (.int l1)], [.int (-1 : Int32)], i_S X M)) rfl ?_
    obtain rfl := Option.some.inj h
    exact i_rret rfl rfl
  · replace h := (if_neg c1).symm.trans h
    refine i_rbF (c := l1 < (0 : Int32)) (t := 37) (n := 4) rfl c1 ?_
    refine i_rs 3 (cf' := (8, [some (.ref 50), some (.int l1)], [.int (10 : Int32), .int l1, .ref 50], i_S X M)) rfl ?_
    refine i_rdiv (cf' := (9, [some (.ref 50), some (.int l1)], [.int (l1 / (10 : Int32)), .ref 50], i_S X M)) rfl (by decide) rfl ?_
    obtain ⟨q2, hq2, h⟩ := i_bdE h
    refine i_rcall (k := 185) (as := [.ref 50, .int (l1 / (10 : Int32))]) (cf1 := (12, [some (.ref 50), some (.int l1)], [], i_S X M)) (cf' := (12, [some (.ref 50), some (.int l1)], [.int q2.1], i_S X q2.2)) rfl (ok_r_isBell (by omega) hq2) rfl ?_
    by_cases c3 : q2.1 = (0 : Int32)
    · replace h := (if_pos c3).symm.trans h
      refine i_rbT (c := q2.1 = (0 : Int32)) (t := 37) (n := 15) rfl c3 ?_
      refine i_rs 1 (cf' := (38, [some (.ref 50), some (.int l1)], [.int (-1 : Int32)], i_S X q2.2)) rfl ?_
      obtain rfl := Option.some.inj h
      exact i_rret rfl rfl
    · replace h := (if_neg c3).symm.trans h
      refine i_rbF (c := q2.1 = (0 : Int32)) (t := 37) (n := 15) rfl c3 ?_
      refine i_rs 3 (cf' := (19, [some (.ref 50), some (.int l1)], [.int (10 : Int32), .int l1, .ref 50], i_S X q2.2)) rfl ?_
      refine i_rrem (cf' := (20, [some (.ref 50), some (.int l1)], [.int (i_rem l1 (10 : Int32)), .ref 50], i_S X q2.2)) rfl (by decide) rfl ?_
      obtain ⟨q4, hq4, h⟩ := i_bdE h
      refine i_rcall (k := 185) (as := [.ref 50, .int (i_rem l1 (10 : Int32))]) (cf1 := (23, [some (.ref 50), some (.int l1)], [], i_S X q2.2)) (cf' := (23, [some (.ref 50), some (.int l1)], [.int q4.1], i_S X q4.2)) rfl (ok_r_isBell (by omega) hq4) rfl ?_
      by_cases c5 : q4.1 = (0 : Int32)
      · replace h := (if_pos c5).symm.trans h
        refine i_rbT (c := q4.1 = (0 : Int32)) (t := 37) (n := 26) rfl c5 ?_
        refine i_rs 1 (cf' := (38, [some (.ref 50), some (.int l1)], [.int (-1 : Int32)], i_S X q4.2)) rfl ?_
        obtain rfl := Option.some.inj h
        exact i_rret rfl rfl
      · replace h := (if_neg c5).symm.trans h
        refine i_rbF (c := q4.1 = (0 : Int32)) (t := 37) (n := 26) rfl c5 ?_
        refine i_rs 2 (cf' := (29, [some (.ref 50), some (.int l1)], [.int (10 : Int32), .int l1], i_S X q4.2)) rfl ?_
        refine i_rdiv (cf' := (30, [some (.ref 50), some (.int l1)], [.int (l1 / (10 : Int32))], i_S X q4.2)) rfl (by decide) rfl ?_
        refine i_rs 2 (cf' := (33, [some (.ref 50), some (.int l1)], [.int (10 : Int32), .int l1, .int (l1 / (10 : Int32))], i_S X q4.2)) rfl ?_
        refine i_rrem (cf' := (34, [some (.ref 50), some (.int l1)], [.int (i_rem l1 (10 : Int32)), .int (l1 / (10 : Int32))], i_S X q4.2)) rfl (by decide) rfl ?_
        by_cases c6 : (l1 / (10 : Int32)) = (i_rem l1 (10 : Int32))
        · replace h := (if_pos c6).symm.trans h
          refine i_rbT (c := (l1 / (10 : Int32)) = (i_rem l1 (10 : Int32))) (t := 37) (n := 39) rfl c6 ?_
          refine i_rs 1 (cf' := (38, [some (.ref 50), some (.int l1)], [.int (-1 : Int32)], i_S X q4.2)) rfl ?_
          obtain rfl := Option.some.inj h
          exact i_rret rfl rfl
        · replace h := (if_neg c6).symm.trans h
          refine i_rbF (c := (l1 / (10 : Int32)) = (i_rem l1 (10 : Int32))) (t := 37) (n := 39) rfl c6 ?_
          refine i_rs 3 (cf' := (43, [some (.ref 50), some (.int l1)], [.int (10 : Int32), .int l1, .ref 50], i_S X q4.2)) rfl ?_
          refine i_rdiv (cf' := (44, [some (.ref 50), some (.int l1)], [.int (l1 / (10 : Int32)), .ref 50], i_S X q4.2)) rfl (by decide) rfl ?_
          refine i_rs 2 (cf' := (47, [some (.ref 50), some (.int l1)], [.int (10 : Int32), .int l1, .int (l1 / (10 : Int32)), .ref 50], i_S X q4.2)) rfl ?_
          refine i_rrem (cf' := (48, [some (.ref 50), some (.int l1)], [.int (i_rem l1 (10 : Int32)), .int (l1 / (10 : Int32)), .ref 50], i_S X q4.2)) rfl (by decide) rfl ?_
          obtain ⟨q7, hq7, h⟩ := i_bdE h
          refine i_rcall (k := 228) (as := [.ref 50, .int (l1 / (10 : Int32)), .int (i_rem l1 (10 : Int32))]) (cf1 := (51, [some (.ref 50), some (.int l1)], [], i_S X q4.2)) (cf' := (51, [some (.ref 50), some (.int l1)], [.int q7.1], i_S X q7.2)) rfl (ok_r_doesShow (by omega) hq7) rfl ?_
          by_cases c8 : q7.1 = (0 : Int32)
          · replace h := (if_pos c8).symm.trans h
            refine i_rbT (c := q7.1 = (0 : Int32)) (t := 58) (n := 54) rfl c8 ?_
            refine i_rs 1 (cf' := (59, [some (.ref 50), some (.int l1)], [.int (0 : Int32)], i_S X q7.2)) rfl ?_
            obtain rfl := Option.some.inj h
            exact i_rret rfl rfl
          · replace h := (if_neg c8).symm.trans h
            refine i_rbF (c := q7.1 = (0 : Int32)) (t := 58) (n := 54) rfl c8 ?_
            refine i_rs 2 (cf' := (59, [some (.ref 50), some (.int l1)], [.int (1 : Int32)], i_S X q7.2)) rfl ?_
            obtain rfl := Option.some.inj h
            exact i_rret rfl rfl
def b_Buried_allBits (M : I_M) : Option (Int32 × I_M) :=
  some ((((1 : Int32) <<< ((M.1 13 6) &&& 31)) - (1 : Int32)), M)
theorem ok_b_Buried_allBits {X : Nat × (Nat → Int32)} {d : Nat} {M : I_M} {r : (Int32 × I_M)} (hd : 1 ≤ d) (h : b_Buried_allBits M = some r) : I_Ex d 110 [.ref 13] (i_S X M) (some (.int r.1)) (i_S X r.2) := by
  obtain ⟨d, rfl⟩ : ∃ d1, d = d1 + 1 := ⟨d - 1, by omega⟩
  unfold b_Buried_allBits at h
  refine i_ex (e := i_r110) (lv := [some (.ref 13)]) rfl (Nat.le_of_ble_eq_true rfl) rfl ?_
  show I_RnE (I_Ex d) i_c110 (0, [some (.ref 13)], [], i_S X M) _ _
  refine i_rs 6 (cf' := (8, [some (.ref 13)], [.int (((1 : Int32) <<< ((M.1 13 6) &&& 31)) - (1 : Int32))], i_S X M)) rfl ?_
  obtain rfl := Option.some.inj h
  exact i_rret rfl rfl
def b_isBellSet (l1 : Int32) (M : I_M) : Option (Int32 × I_M) :=
  (if l1 < (0 : Int32) then
      some ((0 : Int32), M)
    else
      Option.bind (b_Buried_allBits M) (fun q2 => (if q2.1 < l1 then
        some ((0 : Int32), q2.2)
      else
        some ((1 : Int32), q2.2))))
theorem ok_b_isBellSet {X : Nat × (Nat → Int32)} {d : Nat} {l1 : Int32} {M : I_M} {r : (Int32 × I_M)} (hd : 2 ≤ d) (h : b_isBellSet l1 M = some r) : I_Ex d 109 [.ref 0, .int l1] (i_S X M) (some (.int r.1)) (i_S X r.2) := by
  obtain ⟨d, rfl⟩ : ∃ d1, d = d1 + 1 := ⟨d - 1, by omega⟩
  unfold b_isBellSet at h
  refine i_ex (e := i_r109) (lv := [some (.ref 0), some (.int l1)]) rfl (Nat.le_of_ble_eq_true rfl) rfl ?_
  show I_RnE (I_Ex d) i_c109 (0, [some (.ref 0), some (.int l1)], [], i_S X M) _ _
  refine i_rs 1 (cf' := (1, [some (.ref 0), some (.int l1)], [.int l1], i_S X M)) rfl ?_
  by_cases c1 : l1 < (0 : Int32)
  · replace h := (if_pos c1).symm.trans h
    refine i_rbT (c := l1 < (0 : Int32)) (t := 19) (n := 4) rfl c1 ?_
    refine i_rs 1 (cf' := (20, [some (.ref 0), some (.int l1)], [.int (0 : Int32)], i_S X M)) rfl ?_
    obtain rfl := Option.some.inj h
    exact i_rretZ rfl (Or.inl rfl) rfl
  · replace h := (if_neg c1).symm.trans h
    refine i_rbF (c := l1 < (0 : Int32)) (t := 19) (n := 4) rfl c1 ?_
    refine i_rs 3 (cf' := (9, [some (.ref 0), some (.int l1)], [.ref 13, .int l1], i_S X M)) rfl ?_
    obtain ⟨q2, hq2, h⟩ := i_bdE h
    refine i_rcall (k := 110) (as := [.ref 13]) (cf1 := (12, [some (.ref 0), some (.int l1)], [.int l1], i_S X M)) (cf' := (12, [some (.ref 0), some (.int l1)], [.int q2.1, .int l1], i_S X q2.2)) rfl (ok_b_Buried_allBits (by omega) hq2) rfl ?_
    by_cases c3 : q2.1 < l1
    · replace h := (if_pos c3).symm.trans h
      refine i_rbT (c := q2.1 < l1) (t := 19) (n := 15) rfl c3 ?_
      refine i_rs 1 (cf' := (20, [some (.ref 0), some (.int l1)], [.int (0 : Int32)], i_S X q2.2)) rfl ?_
      obtain rfl := Option.some.inj h
      exact i_rretZ rfl (Or.inl rfl) rfl
    · replace h := (if_neg c3).symm.trans h
      refine i_rbF (c := q2.1 < l1) (t := 19) (n := 15) rfl c3 ?_
      refine i_rs 2 (cf' := (20, [some (.ref 0), some (.int l1)], [.int (1 : Int32)], i_S X q2.2)) rfl ?_
      obtain rfl := Option.some.inj h
      exact i_rretZ rfl (Or.inr rfl) rfl
def b_Links_lookAtAll_L22 (l1 : Int32) (k65 : I_M → Option I_M) : Nat → Int32 → I_M → Option I_M
  | 0, _, _ => none
  | n + 1, l2, M =>
    (if l2 < (M.1 13 6) then
        (if l1 = l2 then
          (b_Links_lookAtAll_L22 l1 k65 n) (l2 + (1 : Int32)) M
        else
          Option.bind (b_Links_doesShow l1 l2 M) (fun q6 => (if q6.1 = (0 : Int32) then
            (b_Links_lookAtAll_L22 l1 k65 n) (l2 + (1 : Int32)) q6.2
          else
            i_g l1 6 ((b_Links_lookAtAll_L22 l1 k65 n) (l2 + (1 : Int32)) (i_wI q6.2 29 (Int32.toNatClampNeg l1) ((q6.2.1 29 (Int32.toNatClampNeg l1)) ||| ((1 : Int32) <<< (l2 &&& 31))))))))
      else
        k65  M)
theorem ok_b_Links_lookAtAll_L22 {X : Nat × (Nat → Int32)} {d : Nat} {l1 : Int32} {k65 : I_M → Option I_M} (hd : 7 ≤ d + 1) (hk65 : ∀ (M : I_M) (r : I_M), k65 M = some r → I_RnE (I_Ex d) i_c111 (65, [some (.ref 28), some (.int l1), none], [], i_S X M) none (i_S X r)) : ∀ (n : Nat) (l2 : Int32) (M : I_M) (r : I_M), b_Links_lookAtAll_L22 l1 k65 n l2 M = some r → I_RnE (I_Ex d) i_c111 (22, [some (.ref 28), some (.int l1), some (.int l2)], [], i_S X M) none (i_S X r) := by
  intro n
  induction n with
  | zero => intro _ M r h; cases h
  | succ n hself =>
    intro l2 M r h
    rw [b_Links_lookAtAll_L22] at h
    refine i_rs 4 (cf' := (30, [some (.ref 28), some (.int l1), some (.int l2)], [.int (M.1 13 6), .int l2], i_S X M)) rfl ?_
    by_cases c4 : l2 < (M.1 13 6)
    · replace h := (if_pos c4).symm.trans h
      refine i_rbT (c := l2 < (M.1 13 6)) (t := 33) (n := 65) rfl c4 ?_
      refine i_rs 2 (cf' := (35, [some (.ref 28), some (.int l1), some (.int l2)], [.int l2, .int l1], i_S X M)) rfl ?_
      by_cases c5 : l1 = l2
      · replace h := (if_pos c5).symm.trans h
        refine i_rbT (c := l1 = l2) (t := 59) (n := 38) rfl c5 ?_
        refine i_rs 2 (cf' := (22, [some (.ref 28), some (.int l1), some (.int (l2 + (1 : Int32)))], [], i_S X M)) rfl ?_
        refine i_fg (lv' := [some (.ref 28), some (.int l1), some (.int (l2 + (1 : Int32)))]) (And.intro rfl (And.intro rfl (And.intro rfl True.intro))) ?_
        exact hself (l2 + (1 : Int32)) M _ h
      · replace h := (if_neg c5).symm.trans h
        refine i_rbF (c := l1 = l2) (t := 59) (n := 38) rfl c5 ?_
        refine i_rs 3 (cf' := (41, [some (.ref 28), some (.int l1), some (.int l2)], [.int l2, .int l1, .ref 28], i_S X M)) rfl ?_
        obtain ⟨q6, hq6, h⟩ := i_bdE h
        refine i_rcall (k := 107) (as := [.ref 28, .int l1, .int l2]) (cf1 := (44, [some (.ref 28), some (.int l1), some (.int l2)], [], i_S X M)) (cf' := (44, [some (.ref 28), some (.int l1), some (.int l2)], [.int q6.1], i_S X q6.2)) rfl (ok_b_Links_doesShow (by omega) hq6) rfl ?_
        by_cases c7 : q6.1 = (0 : Int32)
        · replace h := (if_pos c7).symm.trans h
          refine i_rbT (c := q6.1 = (0 : Int32)) (t := 59) (n := 47) rfl c7 ?_
          refine i_rs 2 (cf' := (22, [some (.ref 28), some (.int l1), some (.int (l2 + (1 : Int32)))], [], i_S X q6.2)) rfl ?_
          refine i_fg (lv' := [some (.ref 28), some (.int l1), some (.int (l2 + (1 : Int32)))]) (And.intro rfl (And.intro rfl (And.intro rfl True.intro))) ?_
          exact hself (l2 + (1 : Int32)) q6.2 _ h
        · replace h := (if_neg c7).symm.trans h
          refine i_rbF (c := q6.1 = (0 : Int32)) (t := 59) (n := 47) rfl c7 ?_
          refine i_rs 4 (cf' := (53, [some (.ref 28), some (.int l1), some (.int l2)], [.int l1, .ref 29, .int l1, .ref 29], i_S X q6.2)) rfl ?_
          obtain ⟨g8, h⟩ := i_gE h
          refine i_riald (n := 6) (cf' := (54, [some (.ref 28), some (.int l1), some (.int l2)], [.int (q6.2.1 29 (Int32.toNatClampNeg l1)), .int l1, .ref 29], i_S X q6.2)) rfl rfl (by decide) g8 rfl ?_
          refine i_rs 4 (cf' := (58, [some (.ref 28), some (.int l1), some (.int l2)], [.int ((q6.2.1 29 (Int32.toNatClampNeg l1)) ||| ((1 : Int32) <<< (l2 &&& 31))), .int l1, .ref 29], i_S X q6.2)) rfl ?_
          refine i_riast (n := 6) (cf' := (59, [some (.ref 28), some (.int l1), some (.int l2)], [], i_S X (i_wI q6.2 29 (Int32.toNatClampNeg l1) ((q6.2.1 29 (Int32.toNatClampNeg l1)) ||| ((1 : Int32) <<< (l2 &&& 31)))))) rfl rfl (Or.inl rfl) g8 rfl ?_
          refine i_rs 2 (cf' := (22, [some (.ref 28), some (.int l1), some (.int (l2 + (1 : Int32)))], [], i_S X (i_wI q6.2 29 (Int32.toNatClampNeg l1) ((q6.2.1 29 (Int32.toNatClampNeg l1)) ||| ((1 : Int32) <<< (l2 &&& 31)))))) rfl ?_
          refine i_fg (lv' := [some (.ref 28), some (.int l1), some (.int (l2 + (1 : Int32)))]) (And.intro rfl (And.intro rfl (And.intro rfl True.intro))) ?_
          exact hself (l2 + (1 : Int32)) (i_wI q6.2 29 (Int32.toNatClampNeg l1) ((q6.2.1 29 (Int32.toNatClampNeg l1)) ||| ((1 : Int32) <<< (l2 &&& 31)))) _ h
    · replace h := (if_neg c4).symm.trans h
      refine i_rbF (c := l2 < (M.1 13 6)) (t := 33) (n := 65) rfl c4 ?_
      refine i_fg (lv' := [some (.ref 28), some (.int l1), none]) (And.intro rfl (And.intro rfl True.intro)) ?_
      exact hk65  M _ h
def b_Links_lookAtAll_L2 : Nat → Int32 → I_M → Option I_M
  | 0, _, _ => none
  | n + 1, l1, M =>
    (if l1 < (M.1 13 6) then
        i_g l1 6 (b_Links_lookAtAll_L22 l1 (fun M3 =>
            (b_Links_lookAtAll_L2 n) (l1 + (1 : Int32)) M3) i_F (0 : Int32) (i_wI M 29 (Int32.toNatClampNeg l1) (0 : Int32)))
      else
        some M)
theorem ok_b_Links_lookAtAll_L2 {X : Nat × (Nat → Int32)} {d : Nat} (hd : 7 ≤ d + 1) : ∀ (n : Nat) (l1 : Int32) (M : I_M) (r : I_M), b_Links_lookAtAll_L2 n l1 M = some r → I_RnE (I_Ex d) i_c111 (2, [some (.ref 28), some (.int l1), none], [], i_S X M) none (i_S X r) := by
  intro n
  induction n with
  | zero => intro _ M r h; cases h
  | succ n hself =>
    intro l1 M r h
    rw [b_Links_lookAtAll_L2] at h
    refine i_rs 4 (cf' := (10, [some (.ref 28), some (.int l1), none], [.int (M.1 13 6), .int l1], i_S X M)) rfl ?_
    by_cases c1 : l1 < (M.1 13 6)
    · replace h := (if_pos c1).symm.trans h
      refine i_rbT (c := l1 < (M.1 13 6)) (t := 13) (n := 71) rfl c1 ?_
      refine i_rs 4 (cf' := (19, [some (.ref 28), some (.int l1), none], [.int (0 : Int32), .int l1, .ref 29], i_S X M)) rfl ?_
      obtain ⟨g2, h⟩ := i_gE h
      refine i_riast (n := 6) (cf' := (20, [some (.ref 28), some (.int l1), none], [], i_S X (i_wI M 29 (Int32.toNatClampNeg l1) (0 : Int32)))) rfl rfl (Or.inl rfl) g2 rfl ?_
      refine i_rs 2 (cf' := (22, [some (.ref 28), some (.int l1), some (.int (0 : Int32))], [], i_S X (i_wI M 29 (Int32.toNatClampNeg l1) (0 : Int32)))) rfl ?_
      refine i_fg (lv' := [some (.ref 28), some (.int l1), some (.int (0 : Int32))]) (And.intro rfl (And.intro rfl (And.intro rfl True.intro))) ?_
      refine ok_b_Links_lookAtAll_L22 (by omega) (fun M3 r h => ?_) i_F (0 : Int32) (i_wI M 29 (Int32.toNatClampNeg l1) (0 : Int32)) _ h
      refine i_rs 2 (cf' := (2, [some (.ref 28), some (.int (l1 + (1 : Int32))), none], [], i_S X M3)) rfl ?_
      refine i_fg (lv' := [some (.ref 28), some (.int (l1 + (1 : Int32))), none]) (And.intro rfl (And.intro rfl True.intro)) ?_
      exact hself (l1 + (1 : Int32)) M3 _ h
    · replace h := (if_neg c1).symm.trans h
      refine i_rbF (c := l1 < (M.1 13 6)) (t := 13) (n := 71) rfl c1 ?_
      obtain rfl := Option.some.inj h
      exact i_rret rfl rfl
def b_Links_lookAtAll (M : I_M) : Option I_M :=
  b_Links_lookAtAll_L2 i_F (0 : Int32) M
theorem ok_b_Links_lookAtAll {X : Nat × (Nat → Int32)} {d : Nat} {M : I_M} {r : I_M} (hd : 7 ≤ d) (h : b_Links_lookAtAll M = some r) : I_Ex d 111 [.ref 28] (i_S X M) none (i_S X r) := by
  obtain ⟨d, rfl⟩ : ∃ d1, d = d1 + 1 := ⟨d - 1, by omega⟩
  unfold b_Links_lookAtAll at h
  refine i_ex (e := i_r111) (lv := [some (.ref 28), none, none]) rfl (Nat.le_of_ble_eq_true rfl) rfl ?_
  show I_RnE (I_Ex d) i_c111 (0, [some (.ref 28), none, none], [], i_S X M) _ _
  refine i_rs 2 (cf' := (2, [some (.ref 28), some (.int (0 : Int32)), none], [], i_S X M)) rfl ?_
  refine i_fg (lv' := [some (.ref 28), some (.int (0 : Int32)), none]) (And.intro rfl (And.intro rfl True.intro)) ?_
  refine ok_b_Links_lookAtAll_L2 (by omega) i_F (0 : Int32) M _ h
def b_Links_holds (l0 : Int32) (l1 : Int32) (M : I_M) : Option (Int32 × I_M) :=
  (if ((l0 >>> (l1 &&& 31)) &&& (1 : Int32)) = (0 : Int32) then
      some ((0 : Int32), M)
    else
      some ((1 : Int32), M))
theorem ok_b_Links_holds {X : Nat × (Nat → Int32)} {d : Nat} {l0 : Int32} {l1 : Int32} {M : I_M} {r : (Int32 × I_M)} (hd : 1 ≤ d) (h : b_Links_holds l0 l1 M = some r) : I_Ex d 113 [.int l0, .int l1] (i_S X M) (some (.int r.1)) (i_S X r.2) := by
  obtain ⟨d, rfl⟩ : ∃ d1, d = d1 + 1 := ⟨d - 1, by omega⟩
  unfold b_Links_holds at h
  refine i_ex (e := i_r113) (lv := [some (.int l0), some (.int l1)]) rfl (Nat.le_of_ble_eq_true rfl) rfl ?_
  show I_RnE (I_Ex d) i_c113 (0, [some (.int l0), some (.int l1)], [], i_S X M) _ _
  refine i_rs 5 (cf' := (5, [some (.int l0), some (.int l1)], [.int ((l0 >>> (l1 &&& 31)) &&& (1 : Int32))], i_S X M)) rfl ?_
  by_cases c1 : ((l0 >>> (l1 &&& 31)) &&& (1 : Int32)) = (0 : Int32)
  · replace h := (if_pos c1).symm.trans h
    refine i_rbT (c := ((l0 >>> (l1 &&& 31)) &&& (1 : Int32)) = (0 : Int32)) (t := 12) (n := 8) rfl c1 ?_
    refine i_rs 1 (cf' := (13, [some (.int l0), some (.int l1)], [.int (0 : Int32)], i_S X M)) rfl ?_
    obtain rfl := Option.some.inj h
    exact i_rretZ rfl (Or.inl rfl) rfl
  · replace h := (if_neg c1).symm.trans h
    refine i_rbF (c := ((l0 >>> (l1 &&& 31)) &&& (1 : Int32)) = (0 : Int32)) (t := 12) (n := 8) rfl c1 ?_
    refine i_rs 2 (cf' := (13, [some (.int l0), some (.int l1)], [.int (1 : Int32)], i_S X M)) rfl ?_
    obtain rfl := Option.some.inj h
    exact i_rretZ rfl (Or.inr rfl) rfl
def b_Links_chainOf_L18 (l3 : Int32) (k55 : Int32 → I_M → Option (Int32 × I_M)) : Nat → Int32 → Int32 → I_M → Option (Int32 × I_M)
  | 0, _, _, _ => none
  | n + 1, l2, l4, M =>
    (if l4 < (M.1 13 6) then
        Option.bind (b_Links_holds l2 l4 M) (fun q4 => (if q4.1 = (0 : Int32) then
          (b_Links_chainOf_L18 l3 k55 n) l2 (l4 + (1 : Int32)) q4.2
        else
          i_g l4 6 ((b_Links_chainOf_L18 l3 k55 n) (l2 ||| (q4.2.1 29 (Int32.toNatClampNeg l4))) (l4 + (1 : Int32)) q4.2)))
      else
        k55 l2 M)
theorem ok_b_Links_chainOf_L18 {X : Nat × (Nat → Int32)} {d : Nat} {l3 : Int32} {k55 : Int32 → I_M → Option (Int32 × I_M)} (hd : 2 ≤ d + 1) (hk55 : ∀ (l2 : Int32) (M : I_M) (r : (Int32 × I_M)), k55 l2 M = some r → I_RnE (I_Ex d) i_c112 (55, [some (.ref 28), none, some (.int l2), some (.int l3), none], [], i_S X M) (some (.int r.1)) (i_S X r.2)) : ∀ (n : Nat) (l2 : Int32) (l4 : Int32) (M : I_M) (r : (Int32 × I_M)), b_Links_chainOf_L18 l3 k55 n l2 l4 M = some r → I_RnE (I_Ex d) i_c112 (18, [some (.ref 28), none, some (.int l2), some (.int l3), some (.int l4)], [], i_S X M) (some (.int r.1)) (i_S X r.2) := by
  intro n
  induction n with
  | zero => intro _ _ M r h; cases h
  | succ n hself =>
    intro l2 l4 M r h
    rw [b_Links_chainOf_L18] at h
    refine i_rs 4 (cf' := (27, [some (.ref 28), none, some (.int l2), some (.int l3), some (.int l4)], [.int (M.1 13 6), .int l4], i_S X M)) rfl ?_
    by_cases c3 : l4 < (M.1 13 6)
    · replace h := (if_pos c3).symm.trans h
      refine i_rbT (c := l4 < (M.1 13 6)) (t := 30) (n := 55) rfl c3 ?_
      refine i_rs 2 (cf' := (33, [some (.ref 28), none, some (.int l2), some (.int l3), some (.int l4)], [.int l4, .int l2], i_S X M)) rfl ?_
      obtain ⟨q4, hq4, h⟩ := i_bdE h
      refine i_rcall (k := 113) (as := [.int l2, .int l4]) (cf1 := (36, [some (.ref 28), none, some (.int l2), some (.int l3), some (.int l4)], [], i_S X M)) (cf' := (36, [some (.ref 28), none, some (.int l2), some (.int l3), some (.int l4)], [.int q4.1], i_S X q4.2)) rfl (ok_b_Links_holds (by omega) hq4) rfl ?_
      by_cases c5 : q4.1 = (0 : Int32)
      · replace h := (if_pos c5).symm.trans h
        refine i_rbT (c := q4.1 = (0 : Int32)) (t := 49) (n := 39) rfl c5 ?_
        refine i_rs 2 (cf' := (18, [some (.ref 28), none, some (.int l2), some (.int l3), some (.int (l4 + (1 : Int32)))], [], i_S X q4.2)) rfl ?_
        refine i_fg (lv' := [some (.ref 28), none, some (.int l2), some (.int l3), some (.int (l4 + (1 : Int32)))]) (And.intro rfl (And.intro rfl (And.intro rfl (And.intro rfl True.intro)))) ?_
        exact hself l2 (l4 + (1 : Int32)) q4.2 _ h
      · replace h := (if_neg c5).symm.trans h
        refine i_rbF (c := q4.1 = (0 : Int32)) (t := 49) (n := 39) rfl c5 ?_
        refine i_rs 4 (cf' := (46, [some (.ref 28), none, some (.int l2), some (.int l3), some (.int l4)], [.int l4, .ref 29, .int l2], i_S X q4.2)) rfl ?_
        obtain ⟨g6, h⟩ := i_gE h
        refine i_riald (n := 6) (cf' := (47, [some (.ref 28), none, some (.int l2), some (.int l3), some (.int l4)], [.int (q4.2.1 29 (Int32.toNatClampNeg l4)), .int l2], i_S X q4.2)) rfl rfl (by decide) g6 rfl ?_
        refine i_rs 4 (cf' := (18, [some (.ref 28), none, some (.int (l2 ||| (q4.2.1 29 (Int32.toNatClampNeg l4)))), some (.int l3), some (.int (l4 + (1 : Int32)))], [], i_S X q4.2)) rfl ?_
        refine i_fg (lv' := [some (.ref 28), none, some (.int (l2 ||| (q4.2.1 29 (Int32.toNatClampNeg l4)))), some (.int l3), some (.int (l4 + (1 : Int32)))]) (And.intro rfl (And.intro rfl (And.intro rfl (And.intro rfl True.intro)))) ?_
        exact hself (l2 ||| (q4.2.1 29 (Int32.toNatClampNeg l4))) (l4 + (1 : Int32)) q4.2 _ h
    · replace h := (if_neg c3).symm.trans h
      refine i_rbF (c := l4 < (M.1 13 6)) (t := 30) (n := 55) rfl c3 ?_
      refine i_fg (lv' := [some (.ref 28), none, some (.int l2), some (.int l3), none]) (And.intro rfl (And.intro rfl (And.intro rfl True.intro))) ?_
      exact hk55 l2 M _ h
def b_Links_chainOf_L4 : Nat → Int32 → Int32 → I_M → Option (Int32 × I_M)
  | 0, _, _, _ => none
  | n + 1, l2, l3, M =>
    (if l3 < (M.1 13 6) then
        b_Links_chainOf_L18 l3 (fun l2_2 M2 =>
            (b_Links_chainOf_L4 n) l2_2 (l3 + (1 : Int32)) M2) i_F l2 (0 : Int32) M
      else
        some (l2, M))
theorem ok_b_Links_chainOf_L4 {X : Nat × (Nat → Int32)} {d : Nat} (hd : 2 ≤ d + 1) : ∀ (n : Nat) (l2 : Int32) (l3 : Int32) (M : I_M) (r : (Int32 × I_M)), b_Links_chainOf_L4 n l2 l3 M = some r → I_RnE (I_Ex d) i_c112 (4, [some (.ref 28), none, some (.int l2), some (.int l3), none], [], i_S X M) (some (.int r.1)) (i_S X r.2) := by
  intro n
  induction n with
  | zero => intro _ _ M r h; cases h
  | succ n hself =>
    intro l2 l3 M r h
    rw [b_Links_chainOf_L4] at h
    refine i_rs 4 (cf' := (12, [some (.ref 28), none, some (.int l2), some (.int l3), none], [.int (M.1 13 6), .int l3], i_S X M)) rfl ?_
    by_cases c1 : l3 < (M.1 13 6)
    · replace h := (if_pos c1).symm.trans h
      refine i_rbT (c := l3 < (M.1 13 6)) (t := 15) (n := 61) rfl c1 ?_
      refine i_rs 2 (cf' := (18, [some (.ref 28), none, some (.int l2), some (.int l3), some (.int (0 : Int32))], [], i_S X M)) rfl ?_
      refine i_fg (lv' := [some (.ref 28), none, some (.int l2), some (.int l3), some (.int (0 : Int32))]) (And.intro rfl (And.intro rfl (And.intro rfl (And.intro rfl True.intro)))) ?_
      refine ok_b_Links_chainOf_L18 (by omega) (fun l2_2 M2 r h => ?_) i_F l2 (0 : Int32) M _ h
      refine i_rs 2 (cf' := (4, [some (.ref 28), none, some (.int l2_2), some (.int (l3 + (1 : Int32))), none], [], i_S X M2)) rfl ?_
      refine i_fg (lv' := [some (.ref 28), none, some (.int l2_2), some (.int (l3 + (1 : Int32))), none]) (And.intro rfl (And.intro rfl (And.intro rfl True.intro))) ?_
      exact hself l2_2 (l3 + (1 : Int32)) M2 _ h
    · replace h := (if_neg c1).symm.trans h
      refine i_rbF (c := l3 < (M.1 13 6)) (t := 15) (n := 61) rfl c1 ?_
      refine i_rs 1 (cf' := (62, [some (.ref 28), none, some (.int l2), some (.int l3), none], [.int l2], i_S X M)) rfl ?_
      obtain rfl := Option.some.inj h
      exact i_rret rfl rfl
def b_Links_chainOf (l1 : Int32) (M : I_M) : Option (Int32 × I_M) :=
  b_Links_chainOf_L4 i_F l1 (0 : Int32) M
theorem ok_b_Links_chainOf {X : Nat × (Nat → Int32)} {d : Nat} {l1 : Int32} {M : I_M} {r : (Int32 × I_M)} (hd : 2 ≤ d) (h : b_Links_chainOf l1 M = some r) : I_Ex d 112 [.ref 28, .int l1] (i_S X M) (some (.int r.1)) (i_S X r.2) := by
  obtain ⟨d, rfl⟩ : ∃ d1, d = d1 + 1 := ⟨d - 1, by omega⟩
  unfold b_Links_chainOf at h
  refine i_ex (e := i_r112) (lv := [some (.ref 28), some (.int l1), none, none, none]) rfl (Nat.le_of_ble_eq_true rfl) rfl ?_
  show I_RnE (I_Ex d) i_c112 (0, [some (.ref 28), some (.int l1), none, none, none], [], i_S X M) _ _
  refine i_rs 4 (cf' := (4, [some (.ref 28), some (.int l1), some (.int l1), some (.int (0 : Int32)), none], [], i_S X M)) rfl ?_
  refine i_fg (lv' := [some (.ref 28), none, some (.int l1), some (.int (0 : Int32)), none]) (And.intro rfl (And.intro rfl (And.intro rfl True.intro))) ?_
  refine ok_b_Links_chainOf_L4 (by omega) i_F l1 (0 : Int32) M _ h
def b_chain (l1 : Int32) (M : I_M) : Option (Int32 × I_M) :=
  Option.bind (b_isBellSet l1 M) (fun q1 => (if q1.1 = (0 : Int32) then
      some ((-1 : Int32), q1.2)
    else
      Option.bind (b_Links_lookAtAll q1.2) (fun q3 => Option.bind (b_Links_chainOf l1 q3) (fun q4 => some (q4.1, q4.2)))))
theorem ok_b_chain {X : Nat × (Nat → Int32)} {d : Nat} {l1 : Int32} {M : I_M} {r : (Int32 × I_M)} (hd : 8 ≤ d) (h : b_chain l1 M = some r) : I_Ex d 108 [.ref 0, .int l1] (i_S X M) (some (.int r.1)) (i_S X r.2) := by
  obtain ⟨d, rfl⟩ : ∃ d1, d = d1 + 1 := ⟨d - 1, by omega⟩
  unfold b_chain at h
  refine i_ex (e := i_r108) (lv := [some (.ref 0), some (.int l1)]) rfl (Nat.le_of_ble_eq_true rfl) rfl ?_
  show I_RnE (I_Ex d) i_c108 (0, [some (.ref 0), some (.int l1)], [], i_S X M) _ _
  refine i_rs 2 (cf' := (2, [some (.ref 0), some (.int l1)], [.int l1, .ref 0], i_S X M)) rfl ?_
  obtain ⟨q1, hq1, h⟩ := i_bdE h
  refine i_rcall (k := 109) (as := [.ref 0, .int l1]) (cf1 := (5, [some (.ref 0), some (.int l1)], [], i_S X M)) (cf' := (5, [some (.ref 0), some (.int l1)], [.int q1.1], i_S X q1.2)) rfl (ok_b_isBellSet (by omega) hq1) rfl ?_
  by_cases c2 : q1.1 = (0 : Int32)
  · replace h := (if_pos c2).symm.trans h
    refine i_rbT (c := q1.1 = (0 : Int32)) (t := 8) (n := 10) rfl c2 ?_
    refine i_rs 1 (cf' := (9, [some (.ref 0), some (.int l1)], [.int (-1 : Int32)], i_S X q1.2)) rfl ?_
    obtain rfl := Option.some.inj h
    exact i_rret rfl rfl
  · replace h := (if_neg c2).symm.trans h
    refine i_rbF (c := q1.1 = (0 : Int32)) (t := 8) (n := 10) rfl c2 ?_
    refine i_rs 2 (cf' := (14, [some (.ref 0), some (.int l1)], [.ref 28], i_S X q1.2)) rfl ?_
    obtain ⟨q3, hq3, h⟩ := i_bdE h
    refine i_rcall (k := 111) (as := [.ref 28]) (cf1 := (17, [some (.ref 0), some (.int l1)], [], i_S X q1.2)) (cf' := (17, [some (.ref 0), some (.int l1)], [], i_S X q3)) rfl (ok_b_Links_lookAtAll (by omega) hq3) rfl ?_
    refine i_rs 3 (cf' := (22, [some (.ref 0), some (.int l1)], [.int l1, .ref 28], i_S X q3)) rfl ?_
    obtain ⟨q4, hq4, h⟩ := i_bdE h
    refine i_rcall (k := 112) (as := [.ref 28, .int l1]) (cf1 := (25, [some (.ref 0), some (.int l1)], [], i_S X q3)) (cf' := (25, [some (.ref 0), some (.int l1)], [.int q4.1], i_S X q4.2)) rfl (ok_b_Links_chainOf (by omega) hq4) rfl ?_
    obtain rfl := Option.some.inj h
    exact i_rret rfl rfl
def r_isSet (l1 : Int32) (M : I_M) : Option (Int32 × I_M) :=
  Option.bind (r_within (Int32.toInt64 l1) (0 : Int64) (Int32.toInt64 (((1 : Int32) <<< ((M.1 50 8) &&& 31)) - (1 : Int32))) M) (fun q1 => i_zo q1.1 (some (q1.1, q1.2)))
theorem ok_r_isSet {X : Nat × (Nat → Int32)} {d : Nat} {l1 : Int32} {M : I_M} {r : (Int32 × I_M)} (hd : 2 ≤ d) (h : r_isSet l1 M = some r) : I_Ex d 230 [.ref 50, .int l1] (i_S X M) (some (.int r.1)) (i_S X r.2) := by
  obtain ⟨d, rfl⟩ : ∃ d1, d = d1 + 1 := ⟨d - 1, by omega⟩
  unfold r_isSet at h
  refine i_ex (e := i_r230) (lv := [some (.ref 50), some (.int l1)]) rfl (Nat.le_of_ble_eq_true rfl) rfl ?_
  show I_RnE (I_Ex d) i_c230 (0, [some (.ref 50), some (.int l1)], [], i_S X M) _ _
  refine i_rs 10 (cf' := (12, [some (.ref 50), some (.int l1)], [.long (Int32.toInt64 (((1 : Int32) <<< ((M.1 50 8) &&& 31)) - (1 : Int32))), .long (0 : Int64), .long (Int32.toInt64 l1)], i_S X M)) rfl ?_
  obtain ⟨q1, hq1, h⟩ := i_bdE h
  refine i_rcall (k := 175) (as := [.long (Int32.toInt64 l1), .long (0 : Int64), .long (Int32.toInt64 (((1 : Int32) <<< ((M.1 50 8) &&& 31)) - (1 : Int32)))]) (cf1 := (15, [some (.ref 50), some (.int l1)], [], i_S X M)) (cf' := (15, [some (.ref 50), some (.int l1)], [.int q1.1], i_S X q1.2)) rfl (ok_r_within (by omega) hq1) rfl ?_
  obtain ⟨z2, h⟩ := i_zoE h
  obtain rfl := Option.some.inj h
  exact i_rretZ rfl z2 rfl
def r_shownBy_L4 (l1 : Int32) : Nat → Int32 → Int32 → I_M → Option (Int32 × I_M)
  | 0, _, _, _ => none
  | n + 1, l2, l3, M =>
    (if l3 < (M.1 50 8) then
        Option.bind (r_doesShow l1 l3 M) (fun q2 => (if q2.1 = (0 : Int32) then
          (r_shownBy_L4 l1 n) (l2 ||| (0 : Int32)) (l3 + (1 : Int32)) q2.2
        else
          (r_shownBy_L4 l1 n) (l2 ||| ((1 : Int32) <<< (l3 &&& 31))) (l3 + (1 : Int32)) q2.2))
      else
        some (l2, M))
theorem ok_r_shownBy_L4 {X : Nat × (Nat → Int32)} {d : Nat} {l1 : Int32} (hd : 70 ≤ d + 1) : ∀ (n : Nat) (l2 : Int32) (l3 : Int32) (M : I_M) (r : (Int32 × I_M)), r_shownBy_L4 l1 n l2 l3 M = some r → I_RnE (I_Ex d) i_c232 (4, [some (.ref 50), some (.int l1), some (.int l2), some (.int l3)], [], i_S X M) (some (.int r.1)) (i_S X r.2) := by
  intro n
  induction n with
  | zero => intro _ _ M r h; cases h
  | succ n hself =>
    intro l2 l3 M r h
    rw [r_shownBy_L4] at h
    refine i_rs 3 (cf' := (9, [some (.ref 50), some (.int l1), some (.int l2), some (.int l3)], [.int (M.1 50 8), .int l3], i_S X M)) rfl ?_
    by_cases c1 : l3 < (M.1 50 8)
    · replace h := (if_pos c1).symm.trans h
      refine i_rbT (c := l3 < (M.1 50 8)) (t := 12) (n := 37) rfl c1 ?_
      refine i_rs 4 (cf' := (16, [some (.ref 50), some (.int l1), some (.int l2), some (.int l3)], [.int l3, .int l1, .ref 50, .int l2], i_S X M)) rfl ?_
      obtain ⟨q2, hq2, h⟩ := i_bdE h
      refine i_rcall (k := 228) (as := [.ref 50, .int l1, .int l3]) (cf1 := (19, [some (.ref 50), some (.int l1), some (.int l2), some (.int l3)], [.int l2], i_S X M)) (cf' := (19, [some (.ref 50), some (.int l1), some (.int l2), some (.int l3)], [.int q2.1, .int l2], i_S X q2.2)) rfl (ok_r_doesShow (by omega) hq2) rfl ?_
      by_cases c3 : q2.1 = (0 : Int32)
      · replace h := (if_pos c3).symm.trans h
        refine i_rbT (c := q2.1 = (0 : Int32)) (t := 28) (n := 22) rfl c3 ?_
        refine i_rs 5 (cf' := (4, [some (.ref 50), some (.int l1), some (.int (l2 ||| (0 : Int32))), some (.int (l3 + (1 : Int32)))], [], i_S X q2.2)) rfl ?_
        refine i_fg (lv' := [some (.ref 50), some (.int l1), some (.int (l2 ||| (0 : Int32))), some (.int (l3 + (1 : Int32)))]) (And.intro rfl (And.intro rfl (And.intro rfl (And.intro rfl True.intro)))) ?_
        exact hself (l2 ||| (0 : Int32)) (l3 + (1 : Int32)) q2.2 _ h
      · replace h := (if_neg c3).symm.trans h
        refine i_rbF (c := q2.1 = (0 : Int32)) (t := 28) (n := 22) rfl c3 ?_
        refine i_rs 8 (cf' := (4, [some (.ref 50), some (.int l1), some (.int (l2 ||| ((1 : Int32) <<< (l3 &&& 31)))), some (.int (l3 + (1 : Int32)))], [], i_S X q2.2)) rfl ?_
        refine i_fg (lv' := [some (.ref 50), some (.int l1), some (.int (l2 ||| ((1 : Int32) <<< (l3 &&& 31)))), some (.int (l3 + (1 : Int32)))]) (And.intro rfl (And.intro rfl (And.intro rfl (And.intro rfl True.intro)))) ?_
        exact hself (l2 ||| ((1 : Int32) <<< (l3 &&& 31))) (l3 + (1 : Int32)) q2.2 _ h
    · replace h := (if_neg c1).symm.trans h
      refine i_rbF (c := l3 < (M.1 50 8)) (t := 12) (n := 37) rfl c1 ?_
      refine i_rs 1 (cf' := (38, [some (.ref 50), some (.int l1), some (.int l2), some (.int l3)], [.int l2], i_S X M)) rfl ?_
      obtain rfl := Option.some.inj h
      exact i_rret rfl rfl
def r_shownBy (l1 : Int32) (M : I_M) : Option (Int32 × I_M) :=
  r_shownBy_L4 l1 i_F (0 : Int32) (0 : Int32) M
theorem ok_r_shownBy {X : Nat × (Nat → Int32)} {d : Nat} {l1 : Int32} {M : I_M} {r : (Int32 × I_M)} (hd : 70 ≤ d) (h : r_shownBy l1 M = some r) : I_Ex d 232 [.ref 50, .int l1] (i_S X M) (some (.int r.1)) (i_S X r.2) := by
  obtain ⟨d, rfl⟩ : ∃ d1, d = d1 + 1 := ⟨d - 1, by omega⟩
  unfold r_shownBy at h
  refine i_ex (e := i_r232) (lv := [some (.ref 50), some (.int l1), none, none]) rfl (Nat.le_of_ble_eq_true rfl) rfl ?_
  show I_RnE (I_Ex d) i_c232 (0, [some (.ref 50), some (.int l1), none, none], [], i_S X M) _ _
  refine i_rs 4 (cf' := (4, [some (.ref 50), some (.int l1), some (.int (0 : Int32)), some (.int (0 : Int32))], [], i_S X M)) rfl ?_
  refine i_fg (lv' := [some (.ref 50), some (.int l1), some (.int (0 : Int32)), some (.int (0 : Int32))]) (And.intro rfl (And.intro rfl (And.intro rfl (And.intro rfl True.intro)))) ?_
  refine ok_r_shownBy_L4 (by omega) i_F (0 : Int32) (0 : Int32) M _ h
def r_chainOf_L14 (l2 : Int32) (k53 : Int32 → I_M → Option (Int32 × I_M)) : Nat → Int32 → Int32 → I_M → Option (Int32 × I_M)
  | 0, _, _, _ => none
  | n + 1, l4, l5, M =>
    (if l5 < (M.1 50 8) then
        Option.bind (r_isIn l2 l5 M) (fun q5 => (if q5.1 = (0 : Int32) then
          (r_chainOf_L14 l2 k53 n) (l4 ||| (0 : Int32)) (l5 + (1 : Int32)) q5.2
        else
          Option.bind (r_shownBy l5 q5.2) (fun q7 => (r_chainOf_L14 l2 k53 n) (l4 ||| q7.1) (l5 + (1 : Int32)) q7.2)))
      else
        k53 l4 M)
theorem ok_r_chainOf_L14 {X : Nat × (Nat → Int32)} {d : Nat} {l2 : Int32} {k53 : Int32 → I_M → Option (Int32 × I_M)} (hd : 71 ≤ d + 1) (hk53 : ∀ (l4 : Int32) (M : I_M) (r : (Int32 × I_M)), k53 l4 M = some r → I_RnE (I_Ex d) i_c231 (53, [some (.ref 50), none, some (.int l2), none, some (.int l4), none], [], i_S X M) (some (.int r.1)) (i_S X r.2)) : ∀ (n : Nat) (l4 : Int32) (l5 : Int32) (M : I_M) (r : (Int32 × I_M)), r_chainOf_L14 l2 k53 n l4 l5 M = some r → I_RnE (I_Ex d) i_c231 (14, [some (.ref 50), none, some (.int l2), none, some (.int l4), some (.int l5)], [], i_S X M) (some (.int r.1)) (i_S X r.2) := by
  intro n
  induction n with
  | zero => intro _ _ M r h; cases h
  | succ n hself =>
    intro l4 l5 M r h
    rw [r_chainOf_L14] at h
    refine i_rs 3 (cf' := (20, [some (.ref 50), none, some (.int l2), none, some (.int l4), some (.int l5)], [.int (M.1 50 8), .int l5], i_S X M)) rfl ?_
    by_cases c4 : l5 < (M.1 50 8)
    · replace h := (if_pos c4).symm.trans h
      refine i_rbT (c := l5 < (M.1 50 8)) (t := 23) (n := 53) rfl c4 ?_
      refine i_rs 3 (cf' := (28, [some (.ref 50), none, some (.int l2), none, some (.int l4), some (.int l5)], [.int l5, .int l2, .int l4], i_S X M)) rfl ?_
      obtain ⟨q5, hq5, h⟩ := i_bdE h
      refine i_rcall (k := 188) (as := [.int l2, .int l5]) (cf1 := (31, [some (.ref 50), none, some (.int l2), none, some (.int l4), some (.int l5)], [.int l4], i_S X M)) (cf' := (31, [some (.ref 50), none, some (.int l2), none, some (.int l4), some (.int l5)], [.int q5.1, .int l4], i_S X q5.2)) rfl (ok_r_isIn (by omega) hq5) rfl ?_
      by_cases c6 : q5.1 = (0 : Int32)
      · replace h := (if_pos c6).symm.trans h
        refine i_rbT (c := q5.1 = (0 : Int32)) (t := 43) (n := 34) rfl c6 ?_
        refine i_rs 5 (cf' := (14, [some (.ref 50), none, some (.int l2), none, some (.int (l4 ||| (0 : Int32))), some (.int (l5 + (1 : Int32)))], [], i_S X q5.2)) rfl ?_
        refine i_fg (lv' := [some (.ref 50), none, some (.int l2), none, some (.int (l4 ||| (0 : Int32))), some (.int (l5 + (1 : Int32)))]) (And.intro rfl (And.intro rfl (And.intro rfl (And.intro rfl True.intro)))) ?_
        exact hself (l4 ||| (0 : Int32)) (l5 + (1 : Int32)) q5.2 _ h
      · replace h := (if_neg c6).symm.trans h
        refine i_rbF (c := q5.1 = (0 : Int32)) (t := 43) (n := 34) rfl c6 ?_
        refine i_rs 2 (cf' := (37, [some (.ref 50), none, some (.int l2), none, some (.int l4), some (.int l5)], [.int l5, .ref 50, .int l4], i_S X q5.2)) rfl ?_
        obtain ⟨q7, hq7, h⟩ := i_bdE h
        refine i_rcall (k := 232) (as := [.ref 50, .int l5]) (cf1 := (40, [some (.ref 50), none, some (.int l2), none, some (.int l4), some (.int l5)], [.int l4], i_S X q5.2)) (cf' := (40, [some (.ref 50), none, some (.int l2), none, some (.int l4), some (.int l5)], [.int q7.1, .int l4], i_S X q7.2)) rfl (ok_r_shownBy (by omega) hq7) rfl ?_
        refine i_rs 5 (cf' := (14, [some (.ref 50), none, some (.int l2), none, some (.int (l4 ||| q7.1)), some (.int (l5 + (1 : Int32)))], [], i_S X q7.2)) rfl ?_
        refine i_fg (lv' := [some (.ref 50), none, some (.int l2), none, some (.int (l4 ||| q7.1)), some (.int (l5 + (1 : Int32)))]) (And.intro rfl (And.intro rfl (And.intro rfl (And.intro rfl True.intro)))) ?_
        exact hself (l4 ||| q7.1) (l5 + (1 : Int32)) q7.2 _ h
    · replace h := (if_neg c4).symm.trans h
      refine i_rbF (c := l5 < (M.1 50 8)) (t := 23) (n := 53) rfl c4 ?_
      refine i_fg (lv' := [some (.ref 50), none, some (.int l2), none, some (.int l4), none]) (And.intro rfl (And.intro rfl (And.intro rfl True.intro))) ?_
      exact hk53 l4 M _ h
def r_chainOf_L4 : Nat → Int32 → Int32 → I_M → Option (Int32 × I_M)
  | 0, _, _, _ => none
  | n + 1, l2, l3, M =>
    (if l3 = (0 : Int32) then
        some (l2, M)
      else
        r_chainOf_L14 l2 (fun l4_2 M2 =>
            (if l4_2 = l2 then
              (r_chainOf_L4 n) l4_2 (0 : Int32) M2
            else
              (r_chainOf_L4 n) l4_2 (1 : Int32) M2)) i_F l2 (0 : Int32) M)
theorem ok_r_chainOf_L4 {X : Nat × (Nat → Int32)} {d : Nat} (hd : 71 ≤ d + 1) : ∀ (n : Nat) (l2 : Int32) (l3 : Int32) (M : I_M) (r : (Int32 × I_M)), r_chainOf_L4 n l2 l3 M = some r → I_RnE (I_Ex d) i_c231 (4, [some (.ref 50), none, some (.int l2), some (.int l3), none, none], [], i_S X M) (some (.int r.1)) (i_S X r.2) := by
  intro n
  induction n with
  | zero => intro _ _ M r h; cases h
  | succ n hself =>
    intro l2 l3 M r h
    rw [r_chainOf_L4] at h
    refine i_rs 1 (cf' := (5, [some (.ref 50), none, some (.int l2), some (.int l3), none, none], [.int l3], i_S X M)) rfl ?_
    by_cases c1 : l3 = (0 : Int32)
    · replace h := (if_pos c1).symm.trans h
      refine i_rbT (c := l3 = (0 : Int32)) (t := 71) (n := 8) rfl c1 ?_
      refine i_rs 1 (cf' := (72, [some (.ref 50), none, some (.int l2), some (.int l3), none, none], [.int l2], i_S X M)) rfl ?_
      obtain rfl := Option.some.inj h
      exact i_rret rfl rfl
    · replace h := (if_neg c1).symm.trans h
      refine i_rbF (c := l3 = (0 : Int32)) (t := 71) (n := 8) rfl c1 ?_
      refine i_rs 4 (cf' := (14, [some (.ref 50), none, some (.int l2), some (.int l3), some (.int l2), some (.int (0 : Int32))], [], i_S X M)) rfl ?_
      refine i_fg (lv' := [some (.ref 50), none, some (.int l2), none, some (.int l2), some (.int (0 : Int32))]) (And.intro rfl (And.intro rfl (And.intro rfl (And.intro rfl True.intro)))) ?_
      refine ok_r_chainOf_L14 (by omega) (fun l4_2 M2 r h => ?_) i_F l2 (0 : Int32) M _ h
      refine i_rs 2 (cf' := (56, [some (.ref 50), none, some (.int l2), none, some (.int l4_2), none], [.int l2, .int l4_2], i_S X M2)) rfl ?_
      by_cases c3 : l4_2 = l2
      · replace h := (if_pos c3).symm.trans h
        refine i_rbT (c := l4_2 = l2) (t := 63) (n := 59) rfl c3 ?_
        refine i_rs 5 (cf' := (4, [some (.ref 50), none, some (.int l4_2), some (.int (0 : Int32)), some (.int l4_2), none], [], i_S X M2)) rfl ?_
        refine i_fg (lv' := [some (.ref 50), none, some (.int l4_2), some (.int (0 : Int32)), none, none]) (And.intro rfl (And.intro rfl (And.intro rfl True.intro))) ?_
        exact hself l4_2 (0 : Int32) M2 _ h
      · replace h := (if_neg c3).symm.trans h
        refine i_rbF (c := l4_2 = l2) (t := 63) (n := 59) rfl c3 ?_
        refine i_rs 6 (cf' := (4, [some (.ref 50), none, some (.int l4_2), some (.int (1 : Int32)), some (.int l4_2), none], [], i_S X M2)) rfl ?_
        refine i_fg (lv' := [some (.ref 50), none, some (.int l4_2), some (.int (1 : Int32)), none, none]) (And.intro rfl (And.intro rfl (And.intro rfl True.intro))) ?_
        exact hself l4_2 (1 : Int32) M2 _ h
def r_chainOf (l1 : Int32) (M : I_M) : Option (Int32 × I_M) :=
  r_chainOf_L4 i_F l1 (1 : Int32) M
theorem ok_r_chainOf {X : Nat × (Nat → Int32)} {d : Nat} {l1 : Int32} {M : I_M} {r : (Int32 × I_M)} (hd : 71 ≤ d) (h : r_chainOf l1 M = some r) : I_Ex d 231 [.ref 50, .int l1] (i_S X M) (some (.int r.1)) (i_S X r.2) := by
  obtain ⟨d, rfl⟩ : ∃ d1, d = d1 + 1 := ⟨d - 1, by omega⟩
  unfold r_chainOf at h
  refine i_ex (e := i_r231) (lv := [some (.ref 50), some (.int l1), none, none, none, none]) rfl (Nat.le_of_ble_eq_true rfl) rfl ?_
  show I_RnE (I_Ex d) i_c231 (0, [some (.ref 50), some (.int l1), none, none, none, none], [], i_S X M) _ _
  refine i_rs 4 (cf' := (4, [some (.ref 50), some (.int l1), some (.int l1), some (.int (1 : Int32)), none, none], [], i_S X M)) rfl ?_
  refine i_fg (lv' := [some (.ref 50), none, some (.int l1), some (.int (1 : Int32)), none, none]) (And.intro rfl (And.intro rfl (And.intro rfl True.intro))) ?_
  refine ok_r_chainOf_L4 (by omega) i_F l1 (1 : Int32) M _ h
def r_chain (l1 : Int32) (M : I_M) : Option (Int32 × I_M) :=
  Option.bind (r_isSet l1 M) (fun q1 => (if q1.1 = (0 : Int32) then
      some ((-1 : Int32), q1.2)
    else
      Option.bind (r_chainOf l1 q1.2) (fun q3 => some (q3.1, q3.2))))
theorem ok_r_chain {X : Nat × (Nat → Int32)} {d : Nat} {l1 : Int32} {M : I_M} {r : (Int32 × I_M)} (hd : 72 ≤ d) (h : r_chain l1 M = some r) : I_Ex d 229 [.ref 50, .int l1] (i_S X M) (some (.int r.1)) (i_S X r.2) := by
  obtain ⟨d, rfl⟩ : ∃ d1, d = d1 + 1 := ⟨d - 1, by omega⟩
  unfold r_chain at h
  refine i_ex (e := i_r229) (lv := [some (.ref 50), some (.int l1)]) rfl (Nat.le_of_ble_eq_true rfl) rfl ?_
  show I_RnE (I_Ex d) i_c229 (0, [some (.ref 50), some (.int l1)], [], i_S X M) _ _
  refine i_rs 2 (cf' := (2, [some (.ref 50), some (.int l1)], [.int l1, .ref 50], i_S X M)) rfl ?_
  obtain ⟨q1, hq1, h⟩ := i_bdE h
  refine i_rcall (k := 230) (as := [.ref 50, .int l1]) (cf1 := (5, [some (.ref 50), some (.int l1)], [], i_S X M)) (cf' := (5, [some (.ref 50), some (.int l1)], [.int q1.1], i_S X q1.2)) rfl (ok_r_isSet (by omega) hq1) rfl ?_
  by_cases c2 : q1.1 = (0 : Int32)
  · replace h := (if_pos c2).symm.trans h
    refine i_rbT (c := q1.1 = (0 : Int32)) (t := 16) (n := 8) rfl c2 ?_
    refine i_rs 1 (cf' := (17, [some (.ref 50), some (.int l1)], [.int (-1 : Int32)], i_S X q1.2)) rfl ?_
    obtain rfl := Option.some.inj h
    exact i_rret rfl rfl
  · replace h := (if_neg c2).symm.trans h
    refine i_rbF (c := q1.1 = (0 : Int32)) (t := 16) (n := 8) rfl c2 ?_
    refine i_rs 2 (cf' := (10, [some (.ref 50), some (.int l1)], [.int l1, .ref 50], i_S X q1.2)) rfl ?_
    obtain ⟨q3, hq3, h⟩ := i_bdE h
    refine i_rcall (k := 231) (as := [.ref 50, .int l1]) (cf1 := (13, [some (.ref 50), some (.int l1)], [], i_S X q1.2)) (cf' := (13, [some (.ref 50), some (.int l1)], [.int q3.1], i_S X q3.2)) rfl (ok_r_chainOf (by omega) hq3) rfl ?_
    refine i_rs 1 (cf' := (17, [some (.ref 50), some (.int l1)], [.int q3.1], i_S X q3.2)) rfl ?_
    obtain rfl := Option.some.inj h
    exact i_rret rfl rfl
def b_Links_planFor_L31 (l1 : Int32) (l2 : Int32) (k98 : I_M → Option I_M) : Nat → Int32 → I_M → Option I_M
  | 0, _, _ => none
  | n + 1, l3, M =>
    (if l3 < (M.1 13 6) then
        Option.bind (b_Links_holds l2 l3 M) (fun q8 => (if q8.1 = (0 : Int32) then
          (b_Links_planFor_L31 l1 l2 k98 n) (l3 + (1 : Int32)) q8.2
        else
          i_g l3 6 ((if (l2 ||| (q8.2.1 29 (Int32.toNatClampNeg l3))) = l2 then
            (b_Links_planFor_L31 l1 l2 k98 n) (l3 + (1 : Int32)) q8.2
          else
            i_g l2 64 (i_g (l2 ||| (q8.2.1 29 (Int32.toNatClampNeg l3))) 64 ((b_Links_planFor_L31 l1 l2 k98 n) (l3 + (1 : Int32)) (i_wI q8.2 30 (Int32.toNatClampNeg l2) (i_min (q8.2.1 30 (Int32.toNatClampNeg l2)) ((q8.2.1 30 (Int32.toNatClampNeg (l2 ||| (q8.2.1 29 (Int32.toNatClampNeg l3))))) + (1 : Int32))))))))))
      else
        k98  M)
theorem ok_b_Links_planFor_L31 {X : Nat × (Nat → Int32)} {d : Nat} {l1 : Int32} {l2 : Int32} {k98 : I_M → Option I_M} (hd : 2 ≤ d + 1) (hk98 : ∀ (M : I_M) (r : I_M), k98 M = some r → I_RnE (I_Ex d) i_c115 (98, [some (.ref 28), some (.int l1), some (.int l2), none], [], i_S X M) none (i_S X r)) : ∀ (n : Nat) (l3 : Int32) (M : I_M) (r : I_M), b_Links_planFor_L31 l1 l2 k98 n l3 M = some r → I_RnE (I_Ex d) i_c115 (31, [some (.ref 28), some (.int l1), some (.int l2), some (.int l3)], [], i_S X M) none (i_S X r) := by
  intro n
  induction n with
  | zero => intro _ M r h; cases h
  | succ n hself =>
    intro l3 M r h
    rw [b_Links_planFor_L31] at h
    refine i_rs 4 (cf' := (39, [some (.ref 28), some (.int l1), some (.int l2), some (.int l3)], [.int (M.1 13 6), .int l3], i_S X M)) rfl ?_
    by_cases c7 : l3 < (M.1 13 6)
    · replace h := (if_pos c7).symm.trans h
      refine i_rbT (c := l3 < (M.1 13 6)) (t := 42) (n := 98) rfl c7 ?_
      refine i_rs 2 (cf' := (44, [some (.ref 28), some (.int l1), some (.int l2), some (.int l3)], [.int l3, .int l2], i_S X M)) rfl ?_
      obtain ⟨q8, hq8, h⟩ := i_bdE h
      refine i_rcall (k := 113) (as := [.int l2, .int l3]) (cf1 := (47, [some (.ref 28), some (.int l1), some (.int l2), some (.int l3)], [], i_S X M)) (cf' := (47, [some (.ref 28), some (.int l1), some (.int l2), some (.int l3)], [.int q8.1], i_S X q8.2)) rfl (ok_b_Links_holds (by omega) hq8) rfl ?_
      by_cases c9 : q8.1 = (0 : Int32)
      · replace h := (if_pos c9).symm.trans h
        refine i_rbT (c := q8.1 = (0 : Int32)) (t := 92) (n := 50) rfl c9 ?_
        refine i_rs 2 (cf' := (31, [some (.ref 28), some (.int l1), some (.int l2), some (.int (l3 + (1 : Int32)))], [], i_S X q8.2)) rfl ?_
        refine i_fg (lv' := [some (.ref 28), some (.int l1), some (.int l2), some (.int (l3 + (1 : Int32)))]) (And.intro rfl (And.intro rfl (And.intro rfl (And.intro rfl True.intro)))) ?_
        exact hself (l3 + (1 : Int32)) q8.2 _ h
      · replace h := (if_neg c9).symm.trans h
        refine i_rbF (c := q8.1 = (0 : Int32)) (t := 92) (n := 50) rfl c9 ?_
        refine i_rs 4 (cf' := (56, [some (.ref 28), some (.int l1), some (.int l2), some (.int l3)], [.int l3, .ref 29, .int l2], i_S X q8.2)) rfl ?_
        obtain ⟨g10, h⟩ := i_gE h
        refine i_riald (n := 6) (cf' := (57, [some (.ref 28), some (.int l1), some (.int l2), some (.int l3)], [.int (q8.2.1 29 (Int32.toNatClampNeg l3)), .int l2], i_S X q8.2)) rfl rfl (by decide) g10 rfl ?_
        refine i_rs 2 (cf' := (59, [some (.ref 28), some (.int l1), some (.int l2), some (.int l3)], [.int l2, .int (l2 ||| (q8.2.1 29 (Int32.toNatClampNeg l3)))], i_S X q8.2)) rfl ?_
        by_cases c11 : (l2 ||| (q8.2.1 29 (Int32.toNatClampNeg l3))) = l2
        · replace h := (if_pos c11).symm.trans h
          refine i_rbT (c := (l2 ||| (q8.2.1 29 (Int32.toNatClampNeg l3))) = l2) (t := 92) (n := 62) rfl c11 ?_
          refine i_rs 2 (cf' := (31, [some (.ref 28), some (.int l1), some (.int l2), some (.int (l3 + (1 : Int32)))], [], i_S X q8.2)) rfl ?_
          refine i_fg (lv' := [some (.ref 28), some (.int l1), some (.int l2), some (.int (l3 + (1 : Int32)))]) (And.intro rfl (And.intro rfl (And.intro rfl (And.intro rfl True.intro)))) ?_
          exact hself (l3 + (1 : Int32)) q8.2 _ h
        · replace h := (if_neg c11).symm.trans h
          refine i_rbF (c := (l2 ||| (q8.2.1 29 (Int32.toNatClampNeg l3))) = l2) (t := 92) (n := 62) rfl c11 ?_
          refine i_rs 6 (cf' := (72, [some (.ref 28), some (.int l1), some (.int l2), some (.int l3)], [.int l2, .ref 30, .int l2, .ref 30], i_S X q8.2)) rfl ?_
          obtain ⟨g12, h⟩ := i_gE h
          refine i_riald (n := 64) (cf' := (73, [some (.ref 28), some (.int l1), some (.int l2), some (.int l3)], [.int (q8.2.1 30 (Int32.toNatClampNeg l2)), .int l2, .ref 30], i_S X q8.2)) rfl rfl (by decide) g12 rfl ?_
          refine i_rs 6 (cf' := (83, [some (.ref 28), some (.int l1), some (.int l2), some (.int l3)], [.int l3, .ref 29, .int l2, .ref 30, .int (q8.2.1 30 (Int32.toNatClampNeg l2)), .int l2, .ref 30], i_S X q8.2)) rfl ?_
          refine i_riald (n := 6) (cf' := (84, [some (.ref 28), some (.int l1), some (.int l2), some (.int l3)], [.int (q8.2.1 29 (Int32.toNatClampNeg l3)), .int l2, .ref 30, .int (q8.2.1 30 (Int32.toNatClampNeg l2)), .int l2, .ref 30], i_S X q8.2)) rfl rfl (by decide) g10 rfl ?_
          refine i_rs 1 (cf' := (85, [some (.ref 28), some (.int l1), some (.int l2), some (.int l3)], [.int (l2 ||| (q8.2.1 29 (Int32.toNatClampNeg l3))), .ref 30, .int (q8.2.1 30 (Int32.toNatClampNeg l2)), .int l2, .ref 30], i_S X q8.2)) rfl ?_
          obtain ⟨g13, h⟩ := i_gE h
          refine i_riald (n := 64) (cf' := (86, [some (.ref 28), some (.int l1), some (.int l2), some (.int l3)], [.int (q8.2.1 30 (Int32.toNatClampNeg (l2 ||| (q8.2.1 29 (Int32.toNatClampNeg l3))))), .int (q8.2.1 30 (Int32.toNatClampNeg l2)), .int l2, .ref 30], i_S X q8.2)) rfl rfl (by decide) g13 rfl ?_
          refine i_rs 3 (cf' := (91, [some (.ref 28), some (.int l1), some (.int l2), some (.int l3)], [.int (i_min (q8.2.1 30 (Int32.toNatClampNeg l2)) ((q8.2.1 30 (Int32.toNatClampNeg (l2 ||| (q8.2.1 29 (Int32.toNatClampNeg l3))))) + (1 : Int32))), .int l2, .ref 30], i_S X q8.2)) rfl ?_
          refine i_riast (n := 64) (cf' := (92, [some (.ref 28), some (.int l1), some (.int l2), some (.int l3)], [], i_S X (i_wI q8.2 30 (Int32.toNatClampNeg l2) (i_min (q8.2.1 30 (Int32.toNatClampNeg l2)) ((q8.2.1 30 (Int32.toNatClampNeg (l2 ||| (q8.2.1 29 (Int32.toNatClampNeg l3))))) + (1 : Int32)))))) rfl rfl (Or.inl rfl) g12 rfl ?_
          refine i_rs 2 (cf' := (31, [some (.ref 28), some (.int l1), some (.int l2), some (.int (l3 + (1 : Int32)))], [], i_S X (i_wI q8.2 30 (Int32.toNatClampNeg l2) (i_min (q8.2.1 30 (Int32.toNatClampNeg l2)) ((q8.2.1 30 (Int32.toNatClampNeg (l2 ||| (q8.2.1 29 (Int32.toNatClampNeg l3))))) + (1 : Int32)))))) rfl ?_
          refine i_fg (lv' := [some (.ref 28), some (.int l1), some (.int l2), some (.int (l3 + (1 : Int32)))]) (And.intro rfl (And.intro rfl (And.intro rfl (And.intro rfl True.intro)))) ?_
          exact hself (l3 + (1 : Int32)) (i_wI q8.2 30 (Int32.toNatClampNeg l2) (i_min (q8.2.1 30 (Int32.toNatClampNeg l2)) ((q8.2.1 30 (Int32.toNatClampNeg (l2 ||| (q8.2.1 29 (Int32.toNatClampNeg l3))))) + (1 : Int32)))) _ h
    · replace h := (if_neg c7).symm.trans h
      refine i_rbF (c := l3 < (M.1 13 6)) (t := 42) (n := 98) rfl c7 ?_
      refine i_fg (lv' := [some (.ref 28), some (.int l1), some (.int l2), none]) (And.intro rfl (And.intro rfl (And.intro rfl True.intro))) ?_
      exact hk98  M _ h
def b_Links_planFor_L8 (l1 : Int32) : Nat → Int32 → I_M → Option I_M
  | 0, _, _ => none
  | n + 1, l2, M =>
    (if l2 < (0 : Int32) then
        some M
      else
        (if l2 = l1 then
          i_g l2 64 (b_Links_planFor_L31 l1 l2 (fun M4 =>
              (b_Links_planFor_L8 l1 n) (l2 + (-1 : Int32)) M4) i_F (0 : Int32) (i_wI M 30 (Int32.toNatClampNeg l2) (0 : Int32)))
        else
          i_g l2 64 (b_Links_planFor_L31 l1 l2 (fun M6 =>
              (b_Links_planFor_L8 l1 n) (l2 + (-1 : Int32)) M6) i_F (0 : Int32) (i_wI M 30 (Int32.toNatClampNeg l2) (99 : Int32)))))
theorem ok_b_Links_planFor_L8 {X : Nat × (Nat → Int32)} {d : Nat} {l1 : Int32} (hd : 2 ≤ d + 1) : ∀ (n : Nat) (l2 : Int32) (M : I_M) (r : I_M), b_Links_planFor_L8 l1 n l2 M = some r → I_RnE (I_Ex d) i_c115 (8, [some (.ref 28), some (.int l1), some (.int l2), none], [], i_S X M) none (i_S X r) := by
  intro n
  induction n with
  | zero => intro _ M r h; cases h
  | succ n hself =>
    intro l2 M r h
    rw [b_Links_planFor_L8] at h
    refine i_rs 1 (cf' := (9, [some (.ref 28), some (.int l1), some (.int l2), none], [.int l2], i_S X M)) rfl ?_
    by_cases c1 : l2 < (0 : Int32)
    · replace h := (if_pos c1).symm.trans h
      refine i_rbT (c := l2 < (0 : Int32)) (t := 104) (n := 12) rfl c1 ?_
      obtain rfl := Option.some.inj h
      exact i_rret rfl rfl
    · replace h := (if_neg c1).symm.trans h
      refine i_rbF (c := l2 < (0 : Int32)) (t := 104) (n := 12) rfl c1 ?_
      refine i_rs 5 (cf' := (19, [some (.ref 28), some (.int l1), some (.int l2), none], [.int l1, .int l2, .int l2, .ref 30], i_S X M)) rfl ?_
      by_cases c2 : l2 = l1
      · replace h := (if_pos c2).symm.trans h
        refine i_rbT (c := l2 = l1) (t := 22) (n := 26) rfl c2 ?_
        refine i_rs 2 (cf' := (28, [some (.ref 28), some (.int l1), some (.int l2), none], [.int (0 : Int32), .int l2, .ref 30], i_S X M)) rfl ?_
        obtain ⟨g3, h⟩ := i_gE h
        refine i_riast (n := 64) (cf' := (29, [some (.ref 28), some (.int l1), some (.int l2), none], [], i_S X (i_wI M 30 (Int32.toNatClampNeg l2) (0 : Int32)))) rfl rfl (Or.inl rfl) g3 rfl ?_
        refine i_rs 2 (cf' := (31, [some (.ref 28), some (.int l1), some (.int l2), some (.int (0 : Int32))], [], i_S X (i_wI M 30 (Int32.toNatClampNeg l2) (0 : Int32)))) rfl ?_
        refine i_fg (lv' := [some (.ref 28), some (.int l1), some (.int l2), some (.int (0 : Int32))]) (And.intro rfl (And.intro rfl (And.intro rfl (And.intro rfl True.intro)))) ?_
        refine ok_b_Links_planFor_L31 (by omega) (fun M4 r h => ?_) i_F (0 : Int32) (i_wI M 30 (Int32.toNatClampNeg l2) (0 : Int32)) _ h
        refine i_rs 2 (cf' := (8, [some (.ref 28), some (.int l1), some (.int (l2 + (-1 : Int32))), none], [], i_S X M4)) rfl ?_
        refine i_fg (lv' := [some (.ref 28), some (.int l1), some (.int (l2 + (-1 : Int32))), none]) (And.intro rfl (And.intro rfl (And.intro rfl True.intro))) ?_
        exact hself (l2 + (-1 : Int32)) M4 _ h
      · replace h := (if_neg c2).symm.trans h
        refine i_rbF (c := l2 = l1) (t := 22) (n := 26) rfl c2 ?_
        refine i_rs 1 (cf' := (28, [some (.ref 28), some (.int l1), some (.int l2), none], [.int (99 : Int32), .int l2, .ref 30], i_S X M)) rfl ?_
        obtain ⟨g5, h⟩ := i_gE h
        refine i_riast (n := 64) (cf' := (29, [some (.ref 28), some (.int l1), some (.int l2), none], [], i_S X (i_wI M 30 (Int32.toNatClampNeg l2) (99 : Int32)))) rfl rfl (Or.inl rfl) g5 rfl ?_
        refine i_rs 2 (cf' := (31, [some (.ref 28), some (.int l1), some (.int l2), some (.int (0 : Int32))], [], i_S X (i_wI M 30 (Int32.toNatClampNeg l2) (99 : Int32)))) rfl ?_
        refine i_fg (lv' := [some (.ref 28), some (.int l1), some (.int l2), some (.int (0 : Int32))]) (And.intro rfl (And.intro rfl (And.intro rfl (And.intro rfl True.intro)))) ?_
        refine ok_b_Links_planFor_L31 (by omega) (fun M6 r h => ?_) i_F (0 : Int32) (i_wI M 30 (Int32.toNatClampNeg l2) (99 : Int32)) _ h
        refine i_rs 2 (cf' := (8, [some (.ref 28), some (.int l1), some (.int (l2 + (-1 : Int32))), none], [], i_S X M6)) rfl ?_
        refine i_fg (lv' := [some (.ref 28), some (.int l1), some (.int (l2 + (-1 : Int32))), none]) (And.intro rfl (And.intro rfl (And.intro rfl True.intro))) ?_
        exact hself (l2 + (-1 : Int32)) M6 _ h
def b_Links_planFor (l1 : Int32) (M : I_M) : Option I_M :=
  Option.bind (b_Buried_allBits M) (fun q14 => b_Links_planFor_L8 l1 i_F q14.1 q14.2)
theorem ok_b_Links_planFor {X : Nat × (Nat → Int32)} {d : Nat} {l1 : Int32} {M : I_M} {r : I_M} (hd : 2 ≤ d) (h : b_Links_planFor l1 M = some r) : I_Ex d 115 [.ref 28, .int l1] (i_S X M) none (i_S X r) := by
  obtain ⟨d, rfl⟩ : ∃ d1, d = d1 + 1 := ⟨d - 1, by omega⟩
  unfold b_Links_planFor at h
  refine i_ex (e := i_r115) (lv := [some (.ref 28), some (.int l1), none, none]) rfl (Nat.le_of_ble_eq_true rfl) rfl ?_
  show I_RnE (I_Ex d) i_c115 (0, [some (.ref 28), some (.int l1), none, none], [], i_S X M) _ _
  refine i_rs 2 (cf' := (4, [some (.ref 28), some (.int l1), none, none], [.ref 13], i_S X M)) rfl ?_
  obtain ⟨q14, hq14, h⟩ := i_bdE h
  refine i_rcall (k := 110) (as := [.ref 13]) (cf1 := (7, [some (.ref 28), some (.int l1), none, none], [], i_S X M)) (cf' := (7, [some (.ref 28), some (.int l1), none, none], [.int q14.1], i_S X q14.2)) rfl (ok_b_Buried_allBits (by omega) hq14) rfl ?_
  refine i_rs 1 (cf' := (8, [some (.ref 28), some (.int l1), some (.int q14.1), none], [], i_S X q14.2)) rfl ?_
  refine i_fg (lv' := [some (.ref 28), some (.int l1), some (.int q14.1), none]) (And.intro rfl (And.intro rfl (And.intro rfl True.intro))) ?_
  refine ok_b_Links_planFor_L8 (by omega) i_F q14.1 q14.2 _ h
def b_Links_firstStruck_L2 (l1 : Int32) : Nat → Int32 → I_M → Option (Int32 × I_M)
  | 0, _, _ => none
  | n + 1, l2, M =>
    (if l2 < (M.1 13 6) then
        Option.bind (b_Links_holds l1 l2 M) (fun q2 => (if q2.1 = (0 : Int32) then
          (b_Links_firstStruck_L2 l1 n) (l2 + (1 : Int32)) q2.2
        else
          i_g l2 6 (i_g (l1 ||| (q2.2.1 29 (Int32.toNatClampNeg l2))) 64 (i_g l1 64 ((if (q2.2.1 30 (Int32.toNatClampNeg (l1 ||| (q2.2.1 29 (Int32.toNatClampNeg l2))))) = ((q2.2.1 30 (Int32.toNatClampNeg l1)) - (1 : Int32)) then
            some (l2, q2.2)
          else
            (b_Links_firstStruck_L2 l1 n) (l2 + (1 : Int32)) q2.2))))))
      else
        some ((0 : Int32), M))
theorem ok_b_Links_firstStruck_L2 {X : Nat × (Nat → Int32)} {d : Nat} {l1 : Int32} (hd : 2 ≤ d + 1) : ∀ (n : Nat) (l2 : Int32) (M : I_M) (r : (Int32 × I_M)), b_Links_firstStruck_L2 l1 n l2 M = some r → I_RnE (I_Ex d) i_c117 (2, [some (.ref 28), some (.int l1), some (.int l2)], [], i_S X M) (some (.int r.1)) (i_S X r.2) := by
  intro n
  induction n with
  | zero => intro _ M r h; cases h
  | succ n hself =>
    intro l2 M r h
    rw [b_Links_firstStruck_L2] at h
    refine i_rs 4 (cf' := (10, [some (.ref 28), some (.int l1), some (.int l2)], [.int (M.1 13 6), .int l2], i_S X M)) rfl ?_
    by_cases c1 : l2 < (M.1 13 6)
    · replace h := (if_pos c1).symm.trans h
      refine i_rbT (c := l2 < (M.1 13 6)) (t := 13) (n := 53) rfl c1 ?_
      refine i_rs 2 (cf' := (15, [some (.ref 28), some (.int l1), some (.int l2)], [.int l2, .int l1], i_S X M)) rfl ?_
      obtain ⟨q2, hq2, h⟩ := i_bdE h
      refine i_rcall (k := 113) (as := [.int l1, .int l2]) (cf1 := (18, [some (.ref 28), some (.int l1), some (.int l2)], [], i_S X M)) (cf' := (18, [some (.ref 28), some (.int l1), some (.int l2)], [.int q2.1], i_S X q2.2)) rfl (ok_b_Links_holds (by omega) hq2) rfl ?_
      by_cases c3 : q2.1 = (0 : Int32)
      · replace h := (if_pos c3).symm.trans h
        refine i_rbT (c := q2.1 = (0 : Int32)) (t := 47) (n := 21) rfl c3 ?_
        refine i_rs 2 (cf' := (2, [some (.ref 28), some (.int l1), some (.int (l2 + (1 : Int32)))], [], i_S X q2.2)) rfl ?_
        refine i_fg (lv' := [some (.ref 28), some (.int l1), some (.int (l2 + (1 : Int32)))]) (And.intro rfl (And.intro rfl (And.intro rfl True.intro))) ?_
        exact hself (l2 + (1 : Int32)) q2.2 _ h
      · replace h := (if_neg c3).symm.trans h
        refine i_rbF (c := q2.1 = (0 : Int32)) (t := 47) (n := 21) rfl c3 ?_
        refine i_rs 6 (cf' := (31, [some (.ref 28), some (.int l1), some (.int l2)], [.int l2, .ref 29, .int l1, .ref 30], i_S X q2.2)) rfl ?_
        obtain ⟨g4, h⟩ := i_gE h
        refine i_riald (n := 6) (cf' := (32, [some (.ref 28), some (.int l1), some (.int l2)], [.int (q2.2.1 29 (Int32.toNatClampNeg l2)), .int l1, .ref 30], i_S X q2.2)) rfl rfl (by decide) g4 rfl ?_
        refine i_rs 1 (cf' := (33, [some (.ref 28), some (.int l1), some (.int l2)], [.int (l1 ||| (q2.2.1 29 (Int32.toNatClampNeg l2))), .ref 30], i_S X q2.2)) rfl ?_
        obtain ⟨g5, h⟩ := i_gE h
        refine i_riald (n := 64) (cf' := (34, [some (.ref 28), some (.int l1), some (.int l2)], [.int (q2.2.1 30 (Int32.toNatClampNeg (l1 ||| (q2.2.1 29 (Int32.toNatClampNeg l2)))))], i_S X q2.2)) rfl rfl (by decide) g5 rfl ?_
        refine i_rs 3 (cf' := (39, [some (.ref 28), some (.int l1), some (.int l2)], [.int l1, .ref 30, .int (q2.2.1 30 (Int32.toNatClampNeg (l1 ||| (q2.2.1 29 (Int32.toNatClampNeg l2)))))], i_S X q2.2)) rfl ?_
        obtain ⟨g6, h⟩ := i_gE h
        refine i_riald (n := 64) (cf' := (40, [some (.ref 28), some (.int l1), some (.int l2)], [.int (q2.2.1 30 (Int32.toNatClampNeg l1)), .int (q2.2.1 30 (Int32.toNatClampNeg (l1 ||| (q2.2.1 29 (Int32.toNatClampNeg l2)))))], i_S X q2.2)) rfl rfl (by decide) g6 rfl ?_
        refine i_rs 2 (cf' := (42, [some (.ref 28), some (.int l1), some (.int l2)], [.int ((q2.2.1 30 (Int32.toNatClampNeg l1)) - (1 : Int32)), .int (q2.2.1 30 (Int32.toNatClampNeg (l1 ||| (q2.2.1 29 (Int32.toNatClampNeg l2)))))], i_S X q2.2)) rfl ?_
        by_cases c7 : (q2.2.1 30 (Int32.toNatClampNeg (l1 ||| (q2.2.1 29 (Int32.toNatClampNeg l2))))) = ((q2.2.1 30 (Int32.toNatClampNeg l1)) - (1 : Int32))
        · replace h := (if_pos c7).symm.trans h
          refine i_rbT (c := (q2.2.1 30 (Int32.toNatClampNeg (l1 ||| (q2.2.1 29 (Int32.toNatClampNeg l2))))) = ((q2.2.1 30 (Int32.toNatClampNeg l1)) - (1 : Int32))) (t := 45) (n := 47) rfl c7 ?_
          refine i_rs 1 (cf' := (46, [some (.ref 28), some (.int l1), some (.int l2)], [.int l2], i_S X q2.2)) rfl ?_
          obtain rfl := Option.some.inj h
          exact i_rret rfl rfl
        · replace h := (if_neg c7).symm.trans h
          refine i_rbF (c := (q2.2.1 30 (Int32.toNatClampNeg (l1 ||| (q2.2.1 29 (Int32.toNatClampNeg l2))))) = ((q2.2.1 30 (Int32.toNatClampNeg l1)) - (1 : Int32))) (t := 45) (n := 47) rfl c7 ?_
          refine i_rs 2 (cf' := (2, [some (.ref 28), some (.int l1), some (.int (l2 + (1 : Int32)))], [], i_S X q2.2)) rfl ?_
          refine i_fg (lv' := [some (.ref 28), some (.int l1), some (.int (l2 + (1 : Int32)))]) (And.intro rfl (And.intro rfl (And.intro rfl True.intro))) ?_
          exact hself (l2 + (1 : Int32)) q2.2 _ h
    · replace h := (if_neg c1).symm.trans h
      refine i_rbF (c := l2 < (M.1 13 6)) (t := 13) (n := 53) rfl c1 ?_
      refine i_rs 1 (cf' := (54, [some (.ref 28), some (.int l1), some (.int l2)], [.int (0 : Int32)], i_S X M)) rfl ?_
      obtain rfl := Option.some.inj h
      exact i_rret rfl rfl
def b_Links_firstStruck (l1 : Int32) (M : I_M) : Option (Int32 × I_M) :=
  b_Links_firstStruck_L2 l1 i_F (0 : Int32) M
theorem ok_b_Links_firstStruck {X : Nat × (Nat → Int32)} {d : Nat} {l1 : Int32} {M : I_M} {r : (Int32 × I_M)} (hd : 2 ≤ d) (h : b_Links_firstStruck l1 M = some r) : I_Ex d 117 [.ref 28, .int l1] (i_S X M) (some (.int r.1)) (i_S X r.2) := by
  obtain ⟨d, rfl⟩ : ∃ d1, d = d1 + 1 := ⟨d - 1, by omega⟩
  unfold b_Links_firstStruck at h
  refine i_ex (e := i_r117) (lv := [some (.ref 28), some (.int l1), none]) rfl (Nat.le_of_ble_eq_true rfl) rfl ?_
  show I_RnE (I_Ex d) i_c117 (0, [some (.ref 28), some (.int l1), none], [], i_S X M) _ _
  refine i_rs 2 (cf' := (2, [some (.ref 28), some (.int l1), some (.int (0 : Int32))], [], i_S X M)) rfl ?_
  refine i_fg (lv' := [some (.ref 28), some (.int l1), some (.int (0 : Int32))]) (And.intro rfl (And.intro rfl (And.intro rfl True.intro))) ?_
  refine ok_b_Links_firstStruck_L2 (by omega) i_F (0 : Int32) M _ h
def b_Links_firstRow_L7 : Nat → Int32 → Int32 → Int32 → I_M → Option (Int32 × I_M)
  | 0, _, _, _, _ => none
  | n + 1, l2, l3, l4, M =>
    (if l4 < (6 : Int32) then
        i_g l3 64 ((if (0 : Int32) < (M.1 30 (Int32.toNatClampNeg l3)) then
          Option.bind (b_Links_firstStruck l3 M) (fun q4 => i_g q4.1 6 ((b_Links_firstRow_L7 n) ((((10 : Int32) * l2) + q4.1) + (1 : Int32)) (l3 ||| (q4.2.1 29 (Int32.toNatClampNeg q4.1))) (l4 + (1 : Int32)) q4.2))
        else
          some (l2, M)))
      else
        some (l2, M))
theorem ok_b_Links_firstRow_L7 {X : Nat × (Nat → Int32)} {d : Nat} (hd : 3 ≤ d + 1) : ∀ (n : Nat) (l2 : Int32) (l3 : Int32) (l4 : Int32) (M : I_M) (r : (Int32 × I_M)), b_Links_firstRow_L7 n l2 l3 l4 M = some r → I_RnE (I_Ex d) i_c116 (7, [some (.ref 28), none, some (.int l2), some (.int l3), some (.int l4), none], [], i_S X M) (some (.int r.1)) (i_S X r.2) := by
  intro n
  induction n with
  | zero => intro _ _ _ M r h; cases h
  | succ n hself =>
    intro l2 l3 l4 M r h
    rw [b_Links_firstRow_L7] at h
    refine i_rs 2 (cf' := (11, [some (.ref 28), none, some (.int l2), some (.int l3), some (.int l4), none], [.int (6 : Int32), .int l4], i_S X M)) rfl ?_
    by_cases c1 : l4 < (6 : Int32)
    · replace h := (if_pos c1).symm.trans h
      refine i_rbT (c := l4 < (6 : Int32)) (t := 14) (n := 56) rfl c1 ?_
      refine i_rs 3 (cf' := (19, [some (.ref 28), none, some (.int l2), some (.int l3), some (.int l4), none], [.int l3, .ref 30], i_S X M)) rfl ?_
      obtain ⟨g2, h⟩ := i_gE h
      refine i_riald (n := 64) (cf' := (20, [some (.ref 28), none, some (.int l2), some (.int l3), some (.int l4), none], [.int (M.1 30 (Int32.toNatClampNeg l3))], i_S X M)) rfl rfl (by decide) g2 rfl ?_
      by_cases c3 : (0 : Int32) < (M.1 30 (Int32.toNatClampNeg l3))
      · replace h := (if_pos c3).symm.trans h
        refine i_rbT (c := (0 : Int32) < (M.1 30 (Int32.toNatClampNeg l3))) (t := 23) (n := 56) rfl c3 ?_
        refine i_rs 2 (cf' := (25, [some (.ref 28), none, some (.int l2), some (.int l3), some (.int l4), none], [.int l3, .ref 28], i_S X M)) rfl ?_
        obtain ⟨q4, hq4, h⟩ := i_bdE h
        refine i_rcall (k := 117) (as := [.ref 28, .int l3]) (cf1 := (28, [some (.ref 28), none, some (.int l2), some (.int l3), some (.int l4), none], [], i_S X M)) (cf' := (28, [some (.ref 28), none, some (.int l2), some (.int l3), some (.int l4), none], [.int q4.1], i_S X q4.2)) rfl (ok_b_Links_firstStruck (by omega) hq4) rfl ?_
        refine i_rs 13 (cf' := (47, [some (.ref 28), none, some (.int ((((10 : Int32) * l2) + q4.1) + (1 : Int32))), some (.int l3), some (.int l4), some (.int q4.1)], [.int q4.1, .ref 29, .int l3], i_S X q4.2)) rfl ?_
        obtain ⟨g5, h⟩ := i_gE h
        refine i_riald (n := 6) (cf' := (48, [some (.ref 28), none, some (.int ((((10 : Int32) * l2) + q4.1) + (1 : Int32))), some (.int l3), some (.int l4), some (.int q4.1)], [.int (q4.2.1 29 (Int32.toNatClampNeg q4.1)), .int l3], i_S X q4.2)) rfl rfl (by decide) g5 rfl ?_
        refine i_rs 4 (cf' := (7, [some (.ref 28), none, some (.int ((((10 : Int32) * l2) + q4.1) + (1 : Int32))), some (.int (l3 ||| (q4.2.1 29 (Int32.toNatClampNeg q4.1)))), some (.int (l4 + (1 : Int32))), some (.int q4.1)], [], i_S X q4.2)) rfl ?_
        refine i_fg (lv' := [some (.ref 28), none, some (.int ((((10 : Int32) * l2) + q4.1) + (1 : Int32))), some (.int (l3 ||| (q4.2.1 29 (Int32.toNatClampNeg q4.1)))), some (.int (l4 + (1 : Int32))), none]) (And.intro rfl (And.intro rfl (And.intro rfl (And.intro rfl True.intro)))) ?_
        exact hself ((((10 : Int32) * l2) + q4.1) + (1 : Int32)) (l3 ||| (q4.2.1 29 (Int32.toNatClampNeg q4.1))) (l4 + (1 : Int32)) q4.2 _ h
      · replace h := (if_neg c3).symm.trans h
        refine i_rbF (c := (0 : Int32) < (M.1 30 (Int32.toNatClampNeg l3))) (t := 23) (n := 56) rfl c3 ?_
        refine i_rs 1 (cf' := (57, [some (.ref 28), none, some (.int l2), some (.int l3), some (.int l4), none], [.int l2], i_S X M)) rfl ?_
        obtain rfl := Option.some.inj h
        exact i_rret rfl rfl
    · replace h := (if_neg c1).symm.trans h
      refine i_rbF (c := l4 < (6 : Int32)) (t := 14) (n := 56) rfl c1 ?_
      refine i_rs 1 (cf' := (57, [some (.ref 28), none, some (.int l2), some (.int l3), some (.int l4), none], [.int l2], i_S X M)) rfl ?_
      obtain rfl := Option.some.inj h
      exact i_rret rfl rfl
def b_Links_firstRow (l1 : Int32) (M : I_M) : Option (Int32 × I_M) :=
  b_Links_firstRow_L7 i_F (0 : Int32) l1 (0 : Int32) M
theorem ok_b_Links_firstRow {X : Nat × (Nat → Int32)} {d : Nat} {l1 : Int32} {M : I_M} {r : (Int32 × I_M)} (hd : 3 ≤ d) (h : b_Links_firstRow l1 M = some r) : I_Ex d 116 [.ref 28, .int l1] (i_S X M) (some (.int r.1)) (i_S X r.2) := by
  obtain ⟨d, rfl⟩ : ∃ d1, d = d1 + 1 := ⟨d - 1, by omega⟩
  unfold b_Links_firstRow at h
  refine i_ex (e := i_r116) (lv := [some (.ref 28), some (.int l1), none, none, none, none]) rfl (Nat.le_of_ble_eq_true rfl) rfl ?_
  show I_RnE (I_Ex d) i_c116 (0, [some (.ref 28), some (.int l1), none, none, none, none], [], i_S X M) _ _
  refine i_rs 6 (cf' := (7, [some (.ref 28), some (.int l1), some (.int (0 : Int32)), some (.int l1), some (.int (0 : Int32)), none], [], i_S X M)) rfl ?_
  refine i_fg (lv' := [some (.ref 28), none, some (.int (0 : Int32)), some (.int l1), some (.int (0 : Int32)), none]) (And.intro rfl (And.intro rfl (And.intro rfl (And.intro rfl True.intro)))) ?_
  refine ok_b_Links_firstRow_L7 (by omega) i_F (0 : Int32) l1 (0 : Int32) M _ h
def b_strikes (l1 : Int32) (l2 : Int32) (M : I_M) : Option (Int32 × I_M) :=
  Option.bind (b_isBellSet l1 M) (fun q1 => (if q1.1 = (0 : Int32) then
      some ((-1 : Int32), q1.2)
    else
      (if l2 < (0 : Int32) then
        some ((-1 : Int32), q1.2)
      else
        (if (1 : Int32) < l2 then
          some ((-1 : Int32), q1.2)
        else
          Option.bind (b_Links_lookAtAll q1.2) (fun q5 => Option.bind (b_Links_chainOf l1 q5) (fun q6 => Option.bind (b_Links_planFor q6.1 q6.2) (fun q7 => (if l2 = (0 : Int32) then
            i_g l1 64 (some ((q7.1 30 (Int32.toNatClampNeg l1)), q7))
          else
            Option.bind (b_Links_firstRow l1 q7) (fun q10 => some (q10.1, q10.2))))))))))
theorem ok_b_strikes {X : Nat × (Nat → Int32)} {d : Nat} {l1 : Int32} {l2 : Int32} {M : I_M} {r : (Int32 × I_M)} (hd : 8 ≤ d) (h : b_strikes l1 l2 M = some r) : I_Ex d 114 [.ref 0, .int l1, .int l2] (i_S X M) (some (.int r.1)) (i_S X r.2) := by
  obtain ⟨d, rfl⟩ : ∃ d1, d = d1 + 1 := ⟨d - 1, by omega⟩
  unfold b_strikes at h
  refine i_ex (e := i_r114) (lv := [some (.ref 0), some (.int l1), some (.int l2)]) rfl (Nat.le_of_ble_eq_true rfl) rfl ?_
  show I_RnE (I_Ex d) i_c114 (0, [some (.ref 0), some (.int l1), some (.int l2)], [], i_S X M) _ _
  refine i_rs 2 (cf' := (2, [some (.ref 0), some (.int l1), some (.int l2)], [.int l1, .ref 0], i_S X M)) rfl ?_
  obtain ⟨q1, hq1, h⟩ := i_bdE h
  refine i_rcall (k := 109) (as := [.ref 0, .int l1]) (cf1 := (5, [some (.ref 0), some (.int l1), some (.int l2)], [], i_S X M)) (cf' := (5, [some (.ref 0), some (.int l1), some (.int l2)], [.int q1.1], i_S X q1.2)) rfl (ok_b_isBellSet (by omega) hq1) rfl ?_
  by_cases c2 : q1.1 = (0 : Int32)
  · replace h := (if_pos c2).symm.trans h
    refine i_rbT (c := q1.1 = (0 : Int32)) (t := 17) (n := 8) rfl c2 ?_
    refine i_rs 1 (cf' := (18, [some (.ref 0), some (.int l1), some (.int l2)], [.int (-1 : Int32)], i_S X q1.2)) rfl ?_
    obtain rfl := Option.some.inj h
    exact i_rret rfl rfl
  · replace h := (if_neg c2).symm.trans h
    refine i_rbF (c := q1.1 = (0 : Int32)) (t := 17) (n := 8) rfl c2 ?_
    refine i_rs 1 (cf' := (9, [some (.ref 0), some (.int l1), some (.int l2)], [.int l2], i_S X q1.2)) rfl ?_
    by_cases c3 : l2 < (0 : Int32)
    · replace h := (if_pos c3).symm.trans h
      refine i_rbT (c := l2 < (0 : Int32)) (t := 17) (n := 12) rfl c3 ?_
      refine i_rs 1 (cf' := (18, [some (.ref 0), some (.int l1), some (.int l2)], [.int (-1 : Int32)], i_S X q1.2)) rfl ?_
      obtain rfl := Option.some.inj h
      exact i_rret rfl rfl
    · replace h := (if_neg c3).symm.trans h
      refine i_rbF (c := l2 < (0 : Int32)) (t := 17) (n := 12) rfl c3 ?_
      refine i_rs 2 (cf' := (14, [some (.ref 0), some (.int l1), some (.int l2)], [.int (1 : Int32), .int l2], i_S X q1.2)) rfl ?_
      by_cases c4 : (1 : Int32) < l2
      · replace h := (if_pos c4).symm.trans h
        refine i_rbT (c := (1 : Int32) < l2) (t := 17) (n := 19) rfl c4 ?_
        refine i_rs 1 (cf' := (18, [some (.ref 0), some (.int l1), some (.int l2)], [.int (-1 : Int32)], i_S X q1.2)) rfl ?_
        obtain rfl := Option.some.inj h
        exact i_rret rfl rfl
      · replace h := (if_neg c4).symm.trans h
        refine i_rbF (c := (1 : Int32) < l2) (t := 17) (n := 19) rfl c4 ?_
        refine i_rs 2 (cf' := (23, [some (.ref 0), some (.int l1), some (.int l2)], [.ref 28], i_S X q1.2)) rfl ?_
        obtain ⟨q5, hq5, h⟩ := i_bdE h
        refine i_rcall (k := 111) (as := [.ref 28]) (cf1 := (26, [some (.ref 0), some (.int l1), some (.int l2)], [], i_S X q1.2)) (cf' := (26, [some (.ref 0), some (.int l1), some (.int l2)], [], i_S X q5)) rfl (ok_b_Links_lookAtAll (by omega) hq5) rfl ?_
        refine i_rs 5 (cf' := (35, [some (.ref 0), some (.int l1), some (.int l2)], [.int l1, .ref 28, .ref 28], i_S X q5)) rfl ?_
        obtain ⟨q6, hq6, h⟩ := i_bdE h
        refine i_rcall (k := 112) (as := [.ref 28, .int l1]) (cf1 := (38, [some (.ref 0), some (.int l1), some (.int l2)], [.ref 28], i_S X q5)) (cf' := (38, [some (.ref 0), some (.int l1), some (.int l2)], [.int q6.1, .ref 28], i_S X q6.2)) rfl (ok_b_Links_chainOf (by omega) hq6) rfl ?_
        obtain ⟨q7, hq7, h⟩ := i_bdE h
        refine i_rcall (k := 115) (as := [.ref 28, .int q6.1]) (cf1 := (41, [some (.ref 0), some (.int l1), some (.int l2)], [], i_S X q6.2)) (cf' := (41, [some (.ref 0), some (.int l1), some (.int l2)], [], i_S X q7)) rfl (ok_b_Links_planFor (by omega) hq7) rfl ?_
        refine i_rs 1 (cf' := (42, [some (.ref 0), some (.int l1), some (.int l2)], [.int l2], i_S X q7)) rfl ?_
        by_cases c8 : l2 = (0 : Int32)
        · replace h := (if_pos c8).symm.trans h
          refine i_rbT (c := l2 = (0 : Int32)) (t := 45) (n := 57) rfl c8 ?_
          refine i_rs 4 (cf' := (53, [some (.ref 0), some (.int l1), some (.int l2)], [.int l1, .ref 30], i_S X q7)) rfl ?_
          obtain ⟨g9, h⟩ := i_gE h
          refine i_riald (n := 64) (cf' := (54, [some (.ref 0), some (.int l1), some (.int l2)], [.int (q7.1 30 (Int32.toNatClampNeg l1))], i_S X q7)) rfl rfl (by decide) g9 rfl ?_
          refine i_rs 1 (cf' := (65, [some (.ref 0), some (.int l1), some (.int l2)], [.int (q7.1 30 (Int32.toNatClampNeg l1))], i_S X q7)) rfl ?_
          obtain rfl := Option.some.inj h
          exact i_rret rfl rfl
        · replace h := (if_neg c8).symm.trans h
          refine i_rbF (c := l2 = (0 : Int32)) (t := 45) (n := 57) rfl c8 ?_
          refine i_rs 3 (cf' := (62, [some (.ref 0), some (.int l1), some (.int l2)], [.int l1, .ref 28], i_S X q7)) rfl ?_
          obtain ⟨q10, hq10, h⟩ := i_bdE h
          refine i_rcall (k := 116) (as := [.ref 28, .int l1]) (cf1 := (65, [some (.ref 0), some (.int l1), some (.int l2)], [], i_S X q7)) (cf' := (65, [some (.ref 0), some (.int l1), some (.int l2)], [.int q10.1], i_S X q10.2)) rfl (ok_b_Links_firstRow (by omega) hq10) rfl ?_
          obtain rfl := Option.some.inj h
          exact i_rret rfl rfl
def r_strikesOn_b_B89 (rec_r_strikesOn : Int32 → Int32 → Int32 → Int32 → I_M → Option I_M) (self : Int32 → I_M → Option I_M) (l1 : Int32) (l2 : Int32) (l3 : Int32) (l4 : Int32) (l5 : Int32) (s0 : Int32) (M : I_M) : Option I_M :=
  (if s0 = l1 then
      self (l5 + (1 : Int32)) M
    else
      Option.bind (rec_r_strikesOn s0 l2 (l3 + (1 : Int32)) ((((10 : Int32) * l4) + l5) + (1 : Int32)) M) (fun q6 => self (l5 + (1 : Int32)) q6))
theorem ok_r_strikesOn_b_B89 {X : Nat × (Nat → Int32)} {d : Nat} {rec_r_strikesOn : Int32 → Int32 → Int32 → Int32 → I_M → Option I_M} {self : Int32 → I_M → Option I_M} {l1 : Int32} {l2 : Int32} {l3 : Int32} {l4 : Int32} {l5 : Int32} {s0 : Int32} {M : I_M} {r : I_M} {N : Nat} (hN : 70 ≤ N) (hr_r_strikesOn : ∀ (d : Nat), N ≤ d → ∀ (a1 : Int32) (a2 : Int32) (a3 : Int32) (a4 : Int32) (M : I_M) (q : I_M), rec_r_strikesOn a1 a2 a3 a4 M = some q → I_Ex d 234 [.ref 50, .int a1, .int a2, .int a3, .int a4] (i_S X M) none (i_S X q)) (hself : ∀ (m5 : Int32) (M : I_M) (r : I_M), self m5 M = some r → I_RnE (I_Ex d) i_c234 (59, [some (.ref 50), some (.int l1), some (.int l2), some (.int l3), some (.int l4), some (.int m5), none], [], i_S X M) none (i_S X r)) (hd : N + 1 ≤ d + 1) (h : r_strikesOn_b_B89 rec_r_strikesOn self l1 l2 l3 l4 l5 s0 M = some r) : I_RnE (I_Ex d) i_c234 (89, [some (.ref 50), some (.int l1), some (.int l2), some (.int l3), some (.int l4), some (.int l5), none], [.int s0], i_S X M) none (i_S X r) := by
  unfold r_strikesOn_b_B89 at h
  refine i_rs 3 (cf' := (94, [some (.ref 50), some (.int l1), some (.int l2), some (.int l3), some (.int l4), some (.int l5), some (.int s0)], [.int l1, .int s0], i_S X M)) rfl ?_
  by_cases c5 : s0 = l1
  · replace h := (if_pos c5).symm.trans h
    refine i_rbT (c := s0 = l1) (t := 117) (n := 97) rfl c5 ?_
    refine i_rs 2 (cf' := (59, [some (.ref 50), some (.int l1), some (.int l2), some (.int l3), some (.int l4), some (.int (l5 + (1 : Int32))), some (.int s0)], [], i_S X M)) rfl ?_
    refine i_fg (lv' := [some (.ref 50), some (.int l1), some (.int l2), some (.int l3), some (.int l4), some (.int (l5 + (1 : Int32))), none]) (And.intro rfl (And.intro rfl (And.intro rfl (And.intro rfl (And.intro rfl (And.intro rfl True.intro)))))) ?_
    exact hself (l5 + (1 : Int32)) M _ h
  · replace h := (if_neg c5).symm.trans h
    refine i_rbF (c := s0 = l1) (t := 117) (n := 97) rfl c5 ?_
    refine i_rs 13 (cf' := (114, [some (.ref 50), some (.int l1), some (.int l2), some (.int l3), some (.int l4), some (.int l5), some (.int s0)], [.int ((((10 : Int32) * l4) + l5) + (1 : Int32)), .int (l3 + (1 : Int32)), .int l2, .int s0, .ref 50], i_S X M)) rfl ?_
    obtain ⟨q6, hq6, h⟩ := i_bdE h
    refine i_rcall (k := 234) (as := [.ref 50, .int s0, .int l2, .int (l3 + (1 : Int32)), .int ((((10 : Int32) * l4) + l5) + (1 : Int32))]) (cf1 := (117, [some (.ref 50), some (.int l1), some (.int l2), some (.int l3), some (.int l4), some (.int l5), some (.int s0)], [], i_S X M)) (cf' := (117, [some (.ref 50), some (.int l1), some (.int l2), some (.int l3), some (.int l4), some (.int l5), some (.int s0)], [], i_S X q6)) rfl (hr_r_strikesOn _ (by omega) _ _ _ _ _ _ hq6) rfl ?_
    refine i_rs 2 (cf' := (59, [some (.ref 50), some (.int l1), some (.int l2), some (.int l3), some (.int l4), some (.int (l5 + (1 : Int32))), some (.int s0)], [], i_S X q6)) rfl ?_
    refine i_fg (lv' := [some (.ref 50), some (.int l1), some (.int l2), some (.int l3), some (.int l4), some (.int (l5 + (1 : Int32))), none]) (And.intro rfl (And.intro rfl (And.intro rfl (And.intro rfl (And.intro rfl (And.intro rfl True.intro)))))) ?_
    exact hself (l5 + (1 : Int32)) q6 _ h
def r_strikesOn_b_L59 (rec_r_strikesOn : Int32 → Int32 → Int32 → Int32 → I_M → Option I_M) (l1 : Int32) (l2 : Int32) (l3 : Int32) (l4 : Int32) : Nat → Int32 → I_M → Option I_M
  | 0, _, _ => none
  | n + 1, l5, M =>
    (if l5 < (M.1 50 8) then
        Option.bind (r_isIn l1 l5 M) (fun q2 => (if q2.1 = (0 : Int32) then
          r_strikesOn_b_B89 rec_r_strikesOn ((r_strikesOn_b_L59 rec_r_strikesOn l1 l2 l3 l4 n)) l1 l2 l3 l4 l5 l1 q2.2
        else
          Option.bind (r_shownBy l5 q2.2) (fun q4 => r_strikesOn_b_B89 rec_r_strikesOn ((r_strikesOn_b_L59 rec_r_strikesOn l1 l2 l3 l4 n)) l1 l2 l3 l4 l5 (l1 ||| q4.1) q4.2)))
      else
        some M)
theorem ok_r_strikesOn_b_L59 {X : Nat × (Nat → Int32)} {d : Nat} {rec_r_strikesOn : Int32 → Int32 → Int32 → Int32 → I_M → Option I_M} {l1 : Int32} {l2 : Int32} {l3 : Int32} {l4 : Int32} {N : Nat} (hN : 70 ≤ N) (hr_r_strikesOn : ∀ (d : Nat), N ≤ d → ∀ (a1 : Int32) (a2 : Int32) (a3 : Int32) (a4 : Int32) (M : I_M) (q : I_M), rec_r_strikesOn a1 a2 a3 a4 M = some q → I_Ex d 234 [.ref 50, .int a1, .int a2, .int a3, .int a4] (i_S X M) none (i_S X q)) (hd : N + 1 ≤ d + 1) : ∀ (n : Nat) (l5 : Int32) (M : I_M) (r : I_M), r_strikesOn_b_L59 rec_r_strikesOn l1 l2 l3 l4 n l5 M = some r → I_RnE (I_Ex d) i_c234 (59, [some (.ref 50), some (.int l1), some (.int l2), some (.int l3), some (.int l4), some (.int l5), none], [], i_S X M) none (i_S X r) := by
  intro n
  induction n with
  | zero => intro _ M r h; cases h
  | succ n hself =>
    intro l5 M r h
    rw [r_strikesOn_b_L59] at h
    refine i_rs 3 (cf' := (65, [some (.ref 50), some (.int l1), some (.int l2), some (.int l3), some (.int l4), some (.int l5), none], [.int (M.1 50 8), .int l5], i_S X M)) rfl ?_
    by_cases c1 : l5 < (M.1 50 8)
    · replace h := (if_pos c1).symm.trans h
      refine i_rbT (c := l5 < (M.1 50 8)) (t := 68) (n := 123) rfl c1 ?_
      refine i_rs 2 (cf' := (71, [some (.ref 50), some (.int l1), some (.int l2), some (.int l3), some (.int l4), some (.int l5), none], [.int l5, .int l1], i_S X M)) rfl ?_
      obtain ⟨q2, hq2, h⟩ := i_bdE h
      refine i_rcall (k := 188) (as := [.int l1, .int l5]) (cf1 := (74, [some (.ref 50), some (.int l1), some (.int l2), some (.int l3), some (.int l4), some (.int l5), none], [], i_S X M)) (cf' := (74, [some (.ref 50), some (.int l1), some (.int l2), some (.int l3), some (.int l4), some (.int l5), none], [.int q2.1], i_S X q2.2)) rfl (ok_r_isIn (by omega) hq2) rfl ?_
      by_cases c3 : q2.1 = (0 : Int32)
      · replace h := (if_pos c3).symm.trans h
        refine i_rbT (c := q2.1 = (0 : Int32)) (t := 88) (n := 77) rfl c3 ?_
        refine i_rs 1 (cf' := (89, [some (.ref 50), some (.int l1), some (.int l2), some (.int l3), some (.int l4), some (.int l5), none], [.int l1], i_S X q2.2)) rfl ?_
        refine i_fg (lv' := [some (.ref 50), some (.int l1), some (.int l2), some (.int l3), some (.int l4), some (.int l5), none]) (And.intro rfl (And.intro rfl (And.intro rfl (And.intro rfl (And.intro rfl (And.intro rfl True.intro)))))) ?_
        exact ok_r_strikesOn_b_B89 hN hr_r_strikesOn hself (by omega) h
      · replace h := (if_neg c3).symm.trans h
        refine i_rbF (c := q2.1 = (0 : Int32)) (t := 88) (n := 77) rfl c3 ?_
        refine i_rs 3 (cf' := (81, [some (.ref 50), some (.int l1), some (.int l2), some (.int l3), some (.int l4), some (.int l5), none], [.int l5, .ref 50, .int l1], i_S X q2.2)) rfl ?_
        obtain ⟨q4, hq4, h⟩ := i_bdE h
        refine i_rcall (k := 232) (as := [.ref 50, .int l5]) (cf1 := (84, [some (.ref 50), some (.int l1), some (.int l2), some (.int l3), some (.int l4), some (.int l5), none], [.int l1], i_S X q2.2)) (cf' := (84, [some (.ref 50), some (.int l1), some (.int l2), some (.int l3), some (.int l4), some (.int l5), none], [.int q4.1, .int l1], i_S X q4.2)) rfl (ok_r_shownBy (by omega) hq4) rfl ?_
        refine i_rs 2 (cf' := (89, [some (.ref 50), some (.int l1), some (.int l2), some (.int l3), some (.int l4), some (.int l5), none], [.int (l1 ||| q4.1)], i_S X q4.2)) rfl ?_
        refine i_fg (lv' := [some (.ref 50), some (.int l1), some (.int l2), some (.int l3), some (.int l4), some (.int l5), none]) (And.intro rfl (And.intro rfl (And.intro rfl (And.intro rfl (And.intro rfl (And.intro rfl True.intro)))))) ?_
        exact ok_r_strikesOn_b_B89 hN hr_r_strikesOn hself (by omega) h
    · replace h := (if_neg c1).symm.trans h
      refine i_rbF (c := l5 < (M.1 50 8)) (t := 68) (n := 123) rfl c1 ?_
      obtain rfl := Option.some.inj h
      exact i_rret rfl rfl
def r_strikesOn_b (rec_r_strikesOn : Int32 → Int32 → Int32 → Int32 → I_M → Option I_M) (l1 : Int32) (l2 : Int32) (l3 : Int32) (l4 : Int32) (M : I_M) : Option I_M :=
  (if l1 = l2 then
      (if (M.1 50 37) < (0 : Int32) then
        some (i_wI (i_wI M 50 37 l3) 50 38 l4)
      else
        (if l3 < (M.1 50 37) then
          some (i_wI (i_wI M 50 37 l3) 50 38 l4)
        else
          some M))
    else
      (if l3 = (6 : Int32) then
        some M
      else
        (if (M.1 50 37) < (0 : Int32) then
          r_strikesOn_b_L59 rec_r_strikesOn l1 l2 l3 l4 i_F (0 : Int32) M
        else
          (if (l3 + (1 : Int32)) < (M.1 50 37) then
            r_strikesOn_b_L59 rec_r_strikesOn l1 l2 l3 l4 i_F (0 : Int32) M
          else
            some M))))
theorem ok_r_strikesOn_b {X : Nat × (Nat → Int32)} {d : Nat} {rec_r_strikesOn : Int32 → Int32 → Int32 → Int32 → I_M → Option I_M} {l1 : Int32} {l2 : Int32} {l3 : Int32} {l4 : Int32} {M : I_M} {r : I_M} {N : Nat} (hN : 70 ≤ N) (hr_r_strikesOn : ∀ (d : Nat), N ≤ d → ∀ (a1 : Int32) (a2 : Int32) (a3 : Int32) (a4 : Int32) (M : I_M) (q : I_M), rec_r_strikesOn a1 a2 a3 a4 M = some q → I_Ex d 234 [.ref 50, .int a1, .int a2, .int a3, .int a4] (i_S X M) none (i_S X q)) (hd : N + 1 ≤ d) (h : r_strikesOn_b rec_r_strikesOn l1 l2 l3 l4 M = some r) : I_Ex d 234 [.ref 50, .int l1, .int l2, .int l3, .int l4] (i_S X M) none (i_S X r) := by
  obtain ⟨d, rfl⟩ : ∃ d1, d = d1 + 1 := ⟨d - 1, by omega⟩
  unfold r_strikesOn_b at h
  refine i_ex (e := i_r234) (lv := [some (.ref 50), some (.int l1), some (.int l2), some (.int l3), some (.int l4), none, none]) rfl (Nat.le_of_ble_eq_true rfl) rfl ?_
  show I_RnE (I_Ex d) i_c234 (0, [some (.ref 50), some (.int l1), some (.int l2), some (.int l3), some (.int l4), none, none], [], i_S X M) _ _
  refine i_rs 2 (cf' := (2, [some (.ref 50), some (.int l1), some (.int l2), some (.int l3), some (.int l4), none, none], [.int l2, .int l1], i_S X M)) rfl ?_
  by_cases c7 : l1 = l2
  · replace h := (if_pos c7).symm.trans h
    refine i_rbT (c := l1 = l2) (t := 5) (n := 32) rfl c7 ?_
    refine i_rs 2 (cf' := (9, [some (.ref 50), some (.int l1), some (.int l2), some (.int l3), some (.int l4), none, none], [.int (M.1 50 37)], i_S X M)) rfl ?_
    by_cases c8 : (M.1 50 37) < (0 : Int32)
    · replace h := (if_pos c8).symm.trans h
      refine i_rbT (c := (M.1 50 37) < (0 : Int32)) (t := 20) (n := 12) rfl c8 ?_
      refine i_rs 6 (cf' := (31, [some (.ref 50), some (.int l1), some (.int l2), some (.int l3), some (.int l4), none, none], [], i_S X (i_wI (i_wI M 50 37 l3) 50 38 l4))) rfl ?_
      obtain rfl := Option.some.inj h
      exact i_rret rfl rfl
    · replace h := (if_neg c8).symm.trans h
      refine i_rbF (c := (M.1 50 37) < (0 : Int32)) (t := 20) (n := 12) rfl c8 ?_
      refine i_rs 3 (cf' := (17, [some (.ref 50), some (.int l1), some (.int l2), some (.int l3), some (.int l4), none, none], [.int (M.1 50 37), .int l3], i_S X M)) rfl ?_
      by_cases c9 : l3 < (M.1 50 37)
      · replace h := (if_pos c9).symm.trans h
        refine i_rbT (c := l3 < (M.1 50 37)) (t := 20) (n := 31) rfl c9 ?_
        refine i_rs 6 (cf' := (31, [some (.ref 50), some (.int l1), some (.int l2), some (.int l3), some (.int l4), none, none], [], i_S X (i_wI (i_wI M 50 37 l3) 50 38 l4))) rfl ?_
        obtain rfl := Option.some.inj h
        exact i_rret rfl rfl
      · replace h := (if_neg c9).symm.trans h
        refine i_rbF (c := l3 < (M.1 50 37)) (t := 20) (n := 31) rfl c9 ?_
        obtain rfl := Option.some.inj h
        exact i_rret rfl rfl
  · replace h := (if_neg c7).symm.trans h
    refine i_rbF (c := l1 = l2) (t := 5) (n := 32) rfl c7 ?_
    refine i_rs 2 (cf' := (35, [some (.ref 50), some (.int l1), some (.int l2), some (.int l3), some (.int l4), none, none], [.int (6 : Int32), .int l3], i_S X M)) rfl ?_
    by_cases c10 : l3 = (6 : Int32)
    · replace h := (if_pos c10).symm.trans h
      refine i_rbT (c := l3 = (6 : Int32)) (t := 55) (n := 38) rfl c10 ?_
      obtain rfl := Option.some.inj h
      exact i_rret rfl rfl
    · replace h := (if_neg c10).symm.trans h
      refine i_rbF (c := l3 = (6 : Int32)) (t := 55) (n := 38) rfl c10 ?_
      refine i_rs 2 (cf' := (42, [some (.ref 50), some (.int l1), some (.int l2), some (.int l3), some (.int l4), none, none], [.int (M.1 50 37)], i_S X M)) rfl ?_
      by_cases c11 : (M.1 50 37) < (0 : Int32)
      · replace h := (if_pos c11).symm.trans h
        refine i_rbT (c := (M.1 50 37) < (0 : Int32)) (t := 56) (n := 45) rfl c11 ?_
        refine i_rs 2 (cf' := (59, [some (.ref 50), some (.int l1), some (.int l2), some (.int l3), some (.int l4), some (.int (0 : Int32)), none], [], i_S X M)) rfl ?_
        refine i_fg (lv' := [some (.ref 50), some (.int l1), some (.int l2), some (.int l3), some (.int l4), some (.int (0 : Int32)), none]) (And.intro rfl (And.intro rfl (And.intro rfl (And.intro rfl (And.intro rfl (And.intro rfl True.intro)))))) ?_
        refine ok_r_strikesOn_b_L59 hN hr_r_strikesOn (by omega) i_F (0 : Int32) M _ h
      · replace h := (if_neg c11).symm.trans h
        refine i_rbF (c := (M.1 50 37) < (0 : Int32)) (t := 56) (n := 45) rfl c11 ?_
        refine i_rs 5 (cf' := (52, [some (.ref 50), some (.int l1), some (.int l2), some (.int l3), some (.int l4), none, none], [.int (M.1 50 37), .int (l3 + (1 : Int32))], i_S X M)) rfl ?_
        by_cases c12 : (l3 + (1 : Int32)) < (M.1 50 37)
        · replace h := (if_pos c12).symm.trans h
          refine i_rbT (c := (l3 + (1 : Int32)) < (M.1 50 37)) (t := 56) (n := 55) rfl c12 ?_
          refine i_rs 2 (cf' := (59, [some (.ref 50), some (.int l1), some (.int l2), some (.int l3), some (.int l4), some (.int (0 : Int32)), none], [], i_S X M)) rfl ?_
          refine i_fg (lv' := [some (.ref 50), some (.int l1), some (.int l2), some (.int l3), some (.int l4), some (.int (0 : Int32)), none]) (And.intro rfl (And.intro rfl (And.intro rfl (And.intro rfl (And.intro rfl (And.intro rfl True.intro)))))) ?_
          refine ok_r_strikesOn_b_L59 hN hr_r_strikesOn (by omega) i_F (0 : Int32) M _ h
        · replace h := (if_neg c12).symm.trans h
          refine i_rbF (c := (l3 + (1 : Int32)) < (M.1 50 37)) (t := 56) (n := 55) rfl c12 ?_
          obtain rfl := Option.some.inj h
          exact i_rret rfl rfl
def r_strikesOn : Nat → Int32 → Int32 → Int32 → Int32 → I_M → Option I_M
  | 0, _, _, _, _, _ => none
  | n + 1, a1, a2, a3, a4, M => r_strikesOn_b (r_strikesOn n) a1 a2 a3 a4 M
theorem ok_r_strikesOn {X : Nat × (Nat → Int32)} : ∀ (n : Nat), ∀ (d : Nat), 1 * n + 70 ≤ d → ∀ (a1 : Int32) (a2 : Int32) (a3 : Int32) (a4 : Int32) (M : I_M) (q : I_M), r_strikesOn n a1 a2 a3 a4 M = some q → I_Ex d 234 [.ref 50, .int a1, .int a2, .int a3, .int a4] (i_S X M) none (i_S X q) := by
  intro n
  induction n with
  | zero => intro d _ _ _ _ _ M q h; cases h
  | succ n ih =>
    intro d hd a1 a2 a3 a4 M q h
    rw [r_strikesOn] at h
    exact ok_r_strikesOn_b (N := 1 * n + 70) (by omega) ih (by omega) h
def r_strikes (l1 : Int32) (l2 : Int32) (M : I_M) : Option (Int32 × I_M) :=
  Option.bind (r_isSet l1 M) (fun q1 => (if q1.1 = (0 : Int32) then
      some ((-1 : Int32), q1.2)
    else
      Option.bind (r_within (Int32.toInt64 l2) (0 : Int64) (1 : Int64) q1.2) (fun q3 => (if q3.1 = (0 : Int32) then
        some ((-1 : Int32), q3.2)
      else
        Option.bind (r_chainOf l1 (i_wI (i_wI q3.2 50 37 (-1 : Int32)) 50 38 (0 : Int32))) (fun q5 => Option.bind (r_strikesOn 9 l1 q5.1 (0 : Int32) (0 : Int32) q5.2) (fun q6 => (if l2 = (0 : Int32) then
          some ((q6.1 50 37), q6)
        else
          some ((q6.1 50 38), q6))))))))
theorem ok_r_strikes {X : Nat × (Nat → Int32)} {d : Nat} {l1 : Int32} {l2 : Int32} {M : I_M} {r : (Int32 × I_M)} (hd : 80 ≤ d) (h : r_strikes l1 l2 M = some r) : I_Ex d 233 [.ref 50, .int l1, .int l2] (i_S X M) (some (.int r.1)) (i_S X r.2) := by
  obtain ⟨d, rfl⟩ : ∃ d1, d = d1 + 1 := ⟨d - 1, by omega⟩
  unfold r_strikes at h
  refine i_ex (e := i_r233) (lv := [some (.ref 50), some (.int l1), some (.int l2)]) rfl (Nat.le_of_ble_eq_true rfl) rfl ?_
  show I_RnE (I_Ex d) i_c233 (0, [some (.ref 50), some (.int l1), some (.int l2)], [], i_S X M) _ _
  refine i_rs 2 (cf' := (2, [some (.ref 50), some (.int l1), some (.int l2)], [.int l1, .ref 50], i_S X M)) rfl ?_
  obtain ⟨q1, hq1, h⟩ := i_bdE h
  refine i_rcall (k := 230) (as := [.ref 50, .int l1]) (cf1 := (5, [some (.ref 50), some (.int l1), some (.int l2)], [], i_S X M)) (cf' := (5, [some (.ref 50), some (.int l1), some (.int l2)], [.int q1.1], i_S X q1.2)) rfl (ok_r_isSet (by omega) hq1) rfl ?_
  by_cases c2 : q1.1 = (0 : Int32)
  · replace h := (if_pos c2).symm.trans h
    refine i_rbT (c := q1.1 = (0 : Int32)) (t := 18) (n := 8) rfl c2 ?_
    refine i_rs 1 (cf' := (19, [some (.ref 50), some (.int l1), some (.int l2)], [.int (-1 : Int32)], i_S X q1.2)) rfl ?_
    obtain rfl := Option.some.inj h
    exact i_rret rfl rfl
  · replace h := (if_neg c2).symm.trans h
    refine i_rbF (c := q1.1 = (0 : Int32)) (t := 18) (n := 8) rfl c2 ?_
    refine i_rs 4 (cf' := (12, [some (.ref 50), some (.int l1), some (.int l2)], [.long (1 : Int64), .long (0 : Int64), .long (Int32.toInt64 l2)], i_S X q1.2)) rfl ?_
    obtain ⟨q3, hq3, h⟩ := i_bdE h
    refine i_rcall (k := 175) (as := [.long (Int32.toInt64 l2), .long (0 : Int64), .long (1 : Int64)]) (cf1 := (15, [some (.ref 50), some (.int l1), some (.int l2)], [], i_S X q1.2)) (cf' := (15, [some (.ref 50), some (.int l1), some (.int l2)], [.int q3.1], i_S X q3.2)) rfl (ok_r_within (by omega) hq3) rfl ?_
    by_cases c4 : q3.1 = (0 : Int32)
    · replace h := (if_pos c4).symm.trans h
      refine i_rbT (c := q3.1 = (0 : Int32)) (t := 18) (n := 20) rfl c4 ?_
      refine i_rs 1 (cf' := (19, [some (.ref 50), some (.int l1), some (.int l2)], [.int (-1 : Int32)], i_S X q3.2)) rfl ?_
      obtain rfl := Option.some.inj h
      exact i_rret rfl rfl
    · replace h := (if_neg c4).symm.trans h
      refine i_rbF (c := q3.1 = (0 : Int32)) (t := 18) (n := 20) rfl c4 ?_
      refine i_rs 10 (cf' := (34, [some (.ref 50), some (.int l1), some (.int l2)], [.int l1, .ref 50, .int l1, .ref 50], i_S X (i_wI (i_wI q3.2 50 37 (-1 : Int32)) 50 38 (0 : Int32)))) rfl ?_
      obtain ⟨q5, hq5, h⟩ := i_bdE h
      refine i_rcall (k := 231) (as := [.ref 50, .int l1]) (cf1 := (37, [some (.ref 50), some (.int l1), some (.int l2)], [.int l1, .ref 50], i_S X (i_wI (i_wI q3.2 50 37 (-1 : Int32)) 50 38 (0 : Int32)))) (cf' := (37, [some (.ref 50), some (.int l1), some (.int l2)], [.int q5.1, .int l1, .ref 50], i_S X q5.2)) rfl (ok_r_chainOf (by omega) hq5) rfl ?_
      refine i_rs 2 (cf' := (39, [some (.ref 50), some (.int l1), some (.int l2)], [.int (0 : Int32), .int (0 : Int32), .int q5.1, .int l1, .ref 50], i_S X q5.2)) rfl ?_
      obtain ⟨q6, hq6, h⟩ := i_bdE h
      refine i_rcall (k := 234) (as := [.ref 50, .int l1, .int q5.1, .int (0 : Int32), .int (0 : Int32)]) (cf1 := (42, [some (.ref 50), some (.int l1), some (.int l2)], [], i_S X q5.2)) (cf' := (42, [some (.ref 50), some (.int l1), some (.int l2)], [], i_S X q6)) rfl (ok_r_strikesOn 9 _ (by omega) _ _ _ _ _ _ hq6) rfl ?_
      refine i_rs 1 (cf' := (43, [some (.ref 50), some (.int l1), some (.int l2)], [.int l2], i_S X q6)) rfl ?_
      by_cases c7 : l2 = (0 : Int32)
      · replace h := (if_pos c7).symm.trans h
        refine i_rbT (c := l2 = (0 : Int32)) (t := 46) (n := 53) rfl c7 ?_
        refine i_rs 3 (cf' := (57, [some (.ref 50), some (.int l1), some (.int l2)], [.int (q6.1 50 37)], i_S X q6)) rfl ?_
        obtain rfl := Option.some.inj h
        exact i_rret rfl rfl
      · replace h := (if_neg c7).symm.trans h
        refine i_rbF (c := l2 = (0 : Int32)) (t := 46) (n := 53) rfl c7 ?_
        refine i_rs 2 (cf' := (57, [some (.ref 50), some (.int l1), some (.int l2)], [.int (q6.1 50 38)], i_S X q6)) rfl ?_
        obtain rfl := Option.some.inj h
        exact i_rret rfl rfl
def b_Links_fewestForAll_L12 (l1 : Int32) : Nat → Int32 → Int32 → I_M → Option (Int32 × I_M)
  | 0, _, _, _ => none
  | n + 1, l2, l3, M =>
    (if l1 < l3 then
        some (l2, M)
      else
        Option.bind (b_Links_chainOf l3 M) (fun q2 => (if q2.1 = l1 then
          Option.bind (j_bitCount l3 q2.2) (fun q4 => Option.bind (j_bitCount l2 q4.2) (fun q5 => (if q4.1 < q5.1 then
            (b_Links_fewestForAll_L12 l1 n) l3 (l3 + (1 : Int32)) q5.2
          else
            (b_Links_fewestForAll_L12 l1 n) l2 (l3 + (1 : Int32)) q5.2)))
        else
          (b_Links_fewestForAll_L12 l1 n) l2 (l3 + (1 : Int32)) q2.2)))
theorem ok_b_Links_fewestForAll_L12 {X : Nat × (Nat → Int32)} {d : Nat} {l1 : Int32} (hd : 3 ≤ d + 1) : ∀ (n : Nat) (l2 : Int32) (l3 : Int32) (M : I_M) (r : (Int32 × I_M)), b_Links_fewestForAll_L12 l1 n l2 l3 M = some r → I_RnE (I_Ex d) i_c119 (12, [some (.ref 28), some (.int l1), some (.int l2), some (.int l3)], [], i_S X M) (some (.int r.1)) (i_S X r.2) := by
  intro n
  induction n with
  | zero => intro _ _ M r h; cases h
  | succ n hself =>
    intro l2 l3 M r h
    rw [b_Links_fewestForAll_L12] at h
    refine i_rs 2 (cf' := (14, [some (.ref 28), some (.int l1), some (.int l2), some (.int l3)], [.int l1, .int l3], i_S X M)) rfl ?_
    by_cases c1 : l1 < l3
    · replace h := (if_pos c1).symm.trans h
      refine i_rbT (c := l1 < l3) (t := 45) (n := 17) rfl c1 ?_
      refine i_rs 1 (cf' := (46, [some (.ref 28), some (.int l1), some (.int l2), some (.int l3)], [.int l2], i_S X M)) rfl ?_
      obtain rfl := Option.some.inj h
      exact i_rret rfl rfl
    · replace h := (if_neg c1).symm.trans h
      refine i_rbF (c := l1 < l3) (t := 45) (n := 17) rfl c1 ?_
      refine i_rs 2 (cf' := (19, [some (.ref 28), some (.int l1), some (.int l2), some (.int l3)], [.int l3, .ref 28], i_S X M)) rfl ?_
      obtain ⟨q2, hq2, h⟩ := i_bdE h
      refine i_rcall (k := 112) (as := [.ref 28, .int l3]) (cf1 := (22, [some (.ref 28), some (.int l1), some (.int l2), some (.int l3)], [], i_S X M)) (cf' := (22, [some (.ref 28), some (.int l1), some (.int l2), some (.int l3)], [.int q2.1], i_S X q2.2)) rfl (ok_b_Links_chainOf (by omega) hq2) rfl ?_
      refine i_rs 1 (cf' := (23, [some (.ref 28), some (.int l1), some (.int l2), some (.int l3)], [.int l1, .int q2.1], i_S X q2.2)) rfl ?_
      by_cases c3 : q2.1 = l1
      · replace h := (if_pos c3).symm.trans h
        refine i_rbT (c := q2.1 = l1) (t := 26) (n := 39) rfl c3 ?_
        refine i_rs 1 (cf' := (27, [some (.ref 28), some (.int l1), some (.int l2), some (.int l3)], [.int l3], i_S X q2.2)) rfl ?_
        obtain ⟨q4, hq4, h⟩ := i_bdE h
        refine i_rcall (k := 105) (as := [.int l3]) (cf1 := (30, [some (.ref 28), some (.int l1), some (.int l2), some (.int l3)], [], i_S X q2.2)) (cf' := (30, [some (.ref 28), some (.int l1), some (.int l2), some (.int l3)], [.int q4.1], i_S X q4.2)) rfl (ok_j_bitCount (by omega) hq4) rfl ?_
        refine i_rs 1 (cf' := (31, [some (.ref 28), some (.int l1), some (.int l2), some (.int l3)], [.int l2, .int q4.1], i_S X q4.2)) rfl ?_
        obtain ⟨q5, hq5, h⟩ := i_bdE h
        refine i_rcall (k := 105) (as := [.int l2]) (cf1 := (34, [some (.ref 28), some (.int l1), some (.int l2), some (.int l3)], [.int q4.1], i_S X q4.2)) (cf' := (34, [some (.ref 28), some (.int l1), some (.int l2), some (.int l3)], [.int q5.1, .int q4.1], i_S X q5.2)) rfl (ok_j_bitCount (by omega) hq5) rfl ?_
        by_cases c6 : q4.1 < q5.1
        · replace h := (if_pos c6).symm.trans h
          refine i_rbT (c := q4.1 < q5.1) (t := 37) (n := 39) rfl c6 ?_
          refine i_rs 4 (cf' := (12, [some (.ref 28), some (.int l1), some (.int l3), some (.int (l3 + (1 : Int32)))], [], i_S X q5.2)) rfl ?_
          refine i_fg (lv' := [some (.ref 28), some (.int l1), some (.int l3), some (.int (l3 + (1 : Int32)))]) (And.intro rfl (And.intro rfl (And.intro rfl (And.intro rfl True.intro)))) ?_
          exact hself l3 (l3 + (1 : Int32)) q5.2 _ h
        · replace h := (if_neg c6).symm.trans h
          refine i_rbF (c := q4.1 < q5.1) (t := 37) (n := 39) rfl c6 ?_
          refine i_rs 2 (cf' := (12, [some (.ref 28), some (.int l1), some (.int l2), some (.int (l3 + (1 : Int32)))], [], i_S X q5.2)) rfl ?_
          refine i_fg (lv' := [some (.ref 28), some (.int l1), some (.int l2), some (.int (l3 + (1 : Int32)))]) (And.intro rfl (And.intro rfl (And.intro rfl (And.intro rfl True.intro)))) ?_
          exact hself l2 (l3 + (1 : Int32)) q5.2 _ h
      · replace h := (if_neg c3).symm.trans h
        refine i_rbF (c := q2.1 = l1) (t := 26) (n := 39) rfl c3 ?_
        refine i_rs 2 (cf' := (12, [some (.ref 28), some (.int l1), some (.int l2), some (.int (l3 + (1 : Int32)))], [], i_S X q2.2)) rfl ?_
        refine i_fg (lv' := [some (.ref 28), some (.int l1), some (.int l2), some (.int (l3 + (1 : Int32)))]) (And.intro rfl (And.intro rfl (And.intro rfl (And.intro rfl True.intro)))) ?_
        exact hself l2 (l3 + (1 : Int32)) q2.2 _ h
def b_Links_fewestForAll (M : I_M) : Option (Int32 × I_M) :=
  Option.bind (b_Buried_allBits M) (fun q7 => b_Links_fewestForAll_L12 q7.1 i_F q7.1 (1 : Int32) q7.2)
theorem ok_b_Links_fewestForAll {X : Nat × (Nat → Int32)} {d : Nat} {M : I_M} {r : (Int32 × I_M)} (hd : 3 ≤ d) (h : b_Links_fewestForAll M = some r) : I_Ex d 119 [.ref 28] (i_S X M) (some (.int r.1)) (i_S X r.2) := by
  obtain ⟨d, rfl⟩ : ∃ d1, d = d1 + 1 := ⟨d - 1, by omega⟩
  unfold b_Links_fewestForAll at h
  refine i_ex (e := i_r119) (lv := [some (.ref 28), none, none, none]) rfl (Nat.le_of_ble_eq_true rfl) rfl ?_
  show I_RnE (I_Ex d) i_c119 (0, [some (.ref 28), none, none, none], [], i_S X M) _ _
  refine i_rs 2 (cf' := (4, [some (.ref 28), none, none, none], [.ref 13], i_S X M)) rfl ?_
  obtain ⟨q7, hq7, h⟩ := i_bdE h
  refine i_rcall (k := 110) (as := [.ref 13]) (cf1 := (7, [some (.ref 28), none, none, none], [], i_S X M)) (cf' := (7, [some (.ref 28), none, none, none], [.int q7.1], i_S X q7.2)) rfl (ok_b_Buried_allBits (by omega) hq7) rfl ?_
  refine i_rs 5 (cf' := (12, [some (.ref 28), some (.int q7.1), some (.int q7.1), some (.int (1 : Int32))], [], i_S X q7.2)) rfl ?_
  refine i_fg (lv' := [some (.ref 28), some (.int q7.1), some (.int q7.1), some (.int (1 : Int32))]) (And.intro rfl (And.intro rfl (And.intro rfl (And.intro rfl True.intro)))) ?_
  refine ok_b_Links_fewestForAll_L12 (by omega) i_F q7.1 (1 : Int32) q7.2 _ h
def b_source (M : I_M) : Option (Int32 × I_M) :=
  (if (M.1 13 6) = (0 : Int32) then
      some ((-5 : Int32), M)
    else
      Option.bind (b_Links_lookAtAll M) (fun q2 => Option.bind (b_Links_fewestForAll q2) (fun q3 => some (q3.1, q3.2))))
theorem ok_b_source {X : Nat × (Nat → Int32)} {d : Nat} {M : I_M} {r : (Int32 × I_M)} (hd : 8 ≤ d) (h : b_source M = some r) : I_Ex d 118 [.ref 0] (i_S X M) (some (.int r.1)) (i_S X r.2) := by
  obtain ⟨d, rfl⟩ : ∃ d1, d = d1 + 1 := ⟨d - 1, by omega⟩
  unfold b_source at h
  refine i_ex (e := i_r118) (lv := [some (.ref 0)]) rfl (Nat.le_of_ble_eq_true rfl) rfl ?_
  show I_RnE (I_Ex d) i_c118 (0, [some (.ref 0)], [], i_S X M) _ _
  refine i_rs 3 (cf' := (7, [some (.ref 0)], [.int (M.1 13 6)], i_S X M)) rfl ?_
  by_cases c1 : (M.1 13 6) = (0 : Int32)
  · replace h := (if_pos c1).symm.trans h
    refine i_rbT (c := (M.1 13 6) = (0 : Int32)) (t := 10) (n := 13) rfl c1 ?_
    refine i_rs 1 (cf' := (12, [some (.ref 0)], [.int (-5 : Int32)], i_S X M)) rfl ?_
    obtain rfl := Option.some.inj h
    exact i_rret rfl rfl
  · replace h := (if_neg c1).symm.trans h
    refine i_rbF (c := (M.1 13 6) = (0 : Int32)) (t := 10) (n := 13) rfl c1 ?_
    refine i_rs 2 (cf' := (17, [some (.ref 0)], [.ref 28], i_S X M)) rfl ?_
    obtain ⟨q2, hq2, h⟩ := i_bdE h
    refine i_rcall (k := 111) (as := [.ref 28]) (cf1 := (20, [some (.ref 0)], [], i_S X M)) (cf' := (20, [some (.ref 0)], [], i_S X q2)) rfl (ok_b_Links_lookAtAll (by omega) hq2) rfl ?_
    refine i_rs 2 (cf' := (24, [some (.ref 0)], [.ref 28], i_S X q2)) rfl ?_
    obtain ⟨q3, hq3, h⟩ := i_bdE h
    refine i_rcall (k := 119) (as := [.ref 28]) (cf1 := (27, [some (.ref 0)], [], i_S X q2)) (cf' := (27, [some (.ref 0)], [.int q3.1], i_S X q3.2)) rfl (ok_b_Links_fewestForAll (by omega) hq3) rfl ?_
    obtain rfl := Option.some.inj h
    exact i_rret rfl rfl
