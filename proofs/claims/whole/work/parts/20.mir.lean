/-! ===== part 20: mirrors and what they say (written by wip/whole/mir.py) ===== -/
def b_isSide (l0 : Int32) (M : I_M) : Option (Int32 × I_M) :=
  (if l0 < (1 : Int32) then
      some ((0 : Int32), M)
    else
      (if (5 : Int32) < l0 then
        some ((0 : Int32), M)
      else
        some ((1 : Int32), M)))
theorem ok_b_isSide {X : Nat × (Nat → Int32)} {d : Nat} {l0 : Int32} {M : I_M} {r : (Int32 × I_M)} (hd : 1 ≤ d) (h : b_isSide l0 M = some r) : I_Ex d 15 [.int l0] (i_S X M) (some (.int r.1)) (i_S X r.2) := by
  obtain ⟨d, rfl⟩ : ∃ d1, d = d1 + 1 := ⟨d - 1, by omega⟩
  unfold b_isSide at h
  refine i_ex (e := i_r15) (lv := [some (.int l0)]) rfl (Nat.le_of_ble_eq_true rfl) rfl ?_
  show I_RnE (I_Ex d) i_c15 (0, [some (.int l0)], [], i_S X M) _ _
  refine i_rs 2 (cf' := (2, [some (.int l0)], [.int (1 : Int32), .int l0], i_S X M)) rfl ?_
  by_cases c1 : l0 < (1 : Int32)
  · replace h := (if_pos c1).symm.trans h
    refine i_rbT (c := l0 < (1 : Int32)) (t := 14) (n := 5) rfl c1 ?_
    refine i_rs 1 (cf' := (15, [some (.int l0)], [.int (0 : Int32)], i_S X M)) rfl ?_
    obtain rfl := Option.some.inj h
    exact i_rretZ rfl (Or.inl rfl) rfl
  · replace h := (if_neg c1).symm.trans h
    refine i_rbF (c := l0 < (1 : Int32)) (t := 14) (n := 5) rfl c1 ?_
    refine i_rs 2 (cf' := (7, [some (.int l0)], [.int (5 : Int32), .int l0], i_S X M)) rfl ?_
    by_cases c2 : (5 : Int32) < l0
    · replace h := (if_pos c2).symm.trans h
      refine i_rbT (c := (5 : Int32) < l0) (t := 14) (n := 10) rfl c2 ?_
      refine i_rs 1 (cf' := (15, [some (.int l0)], [.int (0 : Int32)], i_S X M)) rfl ?_
      obtain rfl := Option.some.inj h
      exact i_rretZ rfl (Or.inl rfl) rfl
    · replace h := (if_neg c2).symm.trans h
      refine i_rbF (c := (5 : Int32) < l0) (t := 14) (n := 10) rfl c2 ?_
      refine i_rs 2 (cf' := (15, [some (.int l0)], [.int (1 : Int32)], i_S X M)) rfl ?_
      obtain rfl := Option.some.inj h
      exact i_rretZ rfl (Or.inr rfl) rfl
def j_fillI_4_L5 (l1 : Int32) (l3 : Int32) : Nat → Int32 → I_M → Option I_M
  | 0, _, _ => none
  | n + 1, l2, M =>
    (if l2 < l3 then
        i_g l2 25 ((j_fillI_4_L5 l1 l3 n) (l2 + (1 : Int32)) (i_wI M 4 (Int32.toNatClampNeg l2) l1))
      else
        some M)
theorem ok_j_fillI_4_L5 {X : Nat × (Nat → Int32)} {d : Nat} {l1 : Int32} {l3 : Int32} (hd : 1 ≤ d + 1) : ∀ (n : Nat) (l2 : Int32) (M : I_M) (r : I_M), j_fillI_4_L5 l1 l3 n l2 M = some r → I_RnE (I_Ex d) i_c3 (5, [some (.ref 4), some (.int l1), some (.int l2), some (.int l3)], [], i_S X M) none (i_S X r) := by
  intro n
  induction n with
  | zero => intro _ M r h; cases h
  | succ n hself =>
    intro l2 M r h
    rw [j_fillI_4_L5] at h
    refine i_rs 2 (cf' := (7, [some (.ref 4), some (.int l1), some (.int l2), some (.int l3)], [.int l3, .int l2], i_S X M)) rfl ?_
    by_cases c1 : l2 < l3
    · replace h := (if_pos c1).symm.trans h
      refine i_rbT (c := l2 < l3) (t := 10) (n := 20) rfl c1 ?_
      refine i_rs 3 (cf' := (13, [some (.ref 4), some (.int l1), some (.int l2), some (.int l3)], [.int l1, .int l2, .ref 4], i_S X M)) rfl ?_
      obtain ⟨g2, h⟩ := i_gE h
      refine i_riast (n := 25) (cf' := (14, [some (.ref 4), some (.int l1), some (.int l2), some (.int l3)], [], i_S X (i_wI M 4 (Int32.toNatClampNeg l2) l1))) rfl rfl (Or.inl rfl) g2 rfl ?_
      refine i_rs 2 (cf' := (5, [some (.ref 4), some (.int l1), some (.int (l2 + (1 : Int32))), some (.int l3)], [], i_S X (i_wI M 4 (Int32.toNatClampNeg l2) l1))) rfl ?_
      refine i_fg (lv' := [some (.ref 4), some (.int l1), some (.int (l2 + (1 : Int32))), some (.int l3)]) (And.intro rfl (And.intro rfl (And.intro rfl (And.intro rfl True.intro)))) ?_
      exact hself (l2 + (1 : Int32)) (i_wI M 4 (Int32.toNatClampNeg l2) l1) _ h
    · replace h := (if_neg c1).symm.trans h
      refine i_rbF (c := l2 < l3) (t := 10) (n := 20) rfl c1 ?_
      obtain rfl := Option.some.inj h
      exact i_rret rfl rfl
def j_fillI_4 (l1 : Int32) (M : I_M) : Option I_M :=
  j_fillI_4_L5 l1 (25 : Int32) i_F (0 : Int32) M
theorem ok_j_fillI_4 {X : Nat × (Nat → Int32)} {d : Nat} {l1 : Int32} {M : I_M} {r : I_M} (hd : 1 ≤ d) (h : j_fillI_4 l1 M = some r) : I_Ex d 3 [.ref 4, .int l1] (i_S X M) none (i_S X r) := by
  obtain ⟨d, rfl⟩ : ∃ d1, d = d1 + 1 := ⟨d - 1, by omega⟩
  unfold j_fillI_4 at h
  refine i_ex (e := i_r3) (lv := [some (.ref 4), some (.int l1), none, none]) rfl (Nat.le_of_ble_eq_true rfl) rfl ?_
  show I_RnE (I_Ex d) i_c3 (0, [some (.ref 4), some (.int l1), none, none], [], i_S X M) _ _
  refine i_rs 5 (cf' := (5, [some (.ref 4), some (.int l1), some (.int (0 : Int32)), some (.int (25 : Int32))], [], i_S X M)) rfl ?_
  refine i_fg (lv' := [some (.ref 4), some (.int l1), some (.int (0 : Int32)), some (.int (25 : Int32))]) (And.intro rfl (And.intro rfl (And.intro rfl (And.intro rfl True.intro)))) ?_
  refine ok_j_fillI_4_L5 (by omega) i_F (0 : Int32) M _ h
def j_fillI_5_L5 (l1 : Int32) (l3 : Int32) : Nat → Int32 → I_M → Option I_M
  | 0, _, _ => none
  | n + 1, l2, M =>
    (if l2 < l3 then
        i_g l2 25 ((j_fillI_5_L5 l1 l3 n) (l2 + (1 : Int32)) (i_wI M 5 (Int32.toNatClampNeg l2) l1))
      else
        some M)
theorem ok_j_fillI_5_L5 {X : Nat × (Nat → Int32)} {d : Nat} {l1 : Int32} {l3 : Int32} (hd : 1 ≤ d + 1) : ∀ (n : Nat) (l2 : Int32) (M : I_M) (r : I_M), j_fillI_5_L5 l1 l3 n l2 M = some r → I_RnE (I_Ex d) i_c3 (5, [some (.ref 5), some (.int l1), some (.int l2), some (.int l3)], [], i_S X M) none (i_S X r) := by
  intro n
  induction n with
  | zero => intro _ M r h; cases h
  | succ n hself =>
    intro l2 M r h
    rw [j_fillI_5_L5] at h
    refine i_rs 2 (cf' := (7, [some (.ref 5), some (.int l1), some (.int l2), some (.int l3)], [.int l3, .int l2], i_S X M)) rfl ?_
    by_cases c1 : l2 < l3
    · replace h := (if_pos c1).symm.trans h
      refine i_rbT (c := l2 < l3) (t := 10) (n := 20) rfl c1 ?_
      refine i_rs 3 (cf' := (13, [some (.ref 5), some (.int l1), some (.int l2), some (.int l3)], [.int l1, .int l2, .ref 5], i_S X M)) rfl ?_
      obtain ⟨g2, h⟩ := i_gE h
      refine i_riast (n := 25) (cf' := (14, [some (.ref 5), some (.int l1), some (.int l2), some (.int l3)], [], i_S X (i_wI M 5 (Int32.toNatClampNeg l2) l1))) rfl rfl (Or.inl rfl) g2 rfl ?_
      refine i_rs 2 (cf' := (5, [some (.ref 5), some (.int l1), some (.int (l2 + (1 : Int32))), some (.int l3)], [], i_S X (i_wI M 5 (Int32.toNatClampNeg l2) l1))) rfl ?_
      refine i_fg (lv' := [some (.ref 5), some (.int l1), some (.int (l2 + (1 : Int32))), some (.int l3)]) (And.intro rfl (And.intro rfl (And.intro rfl (And.intro rfl True.intro)))) ?_
      exact hself (l2 + (1 : Int32)) (i_wI M 5 (Int32.toNatClampNeg l2) l1) _ h
    · replace h := (if_neg c1).symm.trans h
      refine i_rbF (c := l2 < l3) (t := 10) (n := 20) rfl c1 ?_
      obtain rfl := Option.some.inj h
      exact i_rret rfl rfl
def j_fillI_5 (l1 : Int32) (M : I_M) : Option I_M :=
  j_fillI_5_L5 l1 (25 : Int32) i_F (0 : Int32) M
theorem ok_j_fillI_5 {X : Nat × (Nat → Int32)} {d : Nat} {l1 : Int32} {M : I_M} {r : I_M} (hd : 1 ≤ d) (h : j_fillI_5 l1 M = some r) : I_Ex d 3 [.ref 5, .int l1] (i_S X M) none (i_S X r) := by
  obtain ⟨d, rfl⟩ : ∃ d1, d = d1 + 1 := ⟨d - 1, by omega⟩
  unfold j_fillI_5 at h
  refine i_ex (e := i_r3) (lv := [some (.ref 5), some (.int l1), none, none]) rfl (Nat.le_of_ble_eq_true rfl) rfl ?_
  show I_RnE (I_Ex d) i_c3 (0, [some (.ref 5), some (.int l1), none, none], [], i_S X M) _ _
  refine i_rs 5 (cf' := (5, [some (.ref 5), some (.int l1), some (.int (0 : Int32)), some (.int (25 : Int32))], [], i_S X M)) rfl ?_
  refine i_fg (lv' := [some (.ref 5), some (.int l1), some (.int (0 : Int32)), some (.int (25 : Int32))]) (And.intro rfl (And.intro rfl (And.intro rfl (And.intro rfl True.intro)))) ?_
  refine ok_j_fillI_5_L5 (by omega) i_F (0 : Int32) M _ h
def b_Land_lay_L27 (l4 : Int32) (k61 : Int32 → I_M → Option I_M) : Nat → Int32 → Int32 → I_M → Option I_M
  | 0, _, _, _ => none
  | n + 1, l3, l5, M =>
    (if l5 < (M.1 1 1) then
        i_g l3 25 ((b_Land_lay_L27 l4 k61 n) (l3 + (1 : Int32)) (l5 + (1 : Int32)) (i_wI (i_wI M 2 (Int32.toNatClampNeg l3) l4) 3 (Int32.toNatClampNeg l3) l5))
      else
        k61 l3 M)
theorem ok_b_Land_lay_L27 {X : Nat × (Nat → Int32)} {d : Nat} {l4 : Int32} {k61 : Int32 → I_M → Option I_M} (hd : 2 ≤ d + 1) (hk61 : ∀ (l3 : Int32) (M : I_M) (r : I_M), k61 l3 M = some r → I_RnE (I_Ex d) i_c2 (61, [some (.ref 1), none, none, some (.int l3), some (.int l4), none], [], i_S X M) none (i_S X r)) : ∀ (n : Nat) (l3 : Int32) (l5 : Int32) (M : I_M) (r : I_M), b_Land_lay_L27 l4 k61 n l3 l5 M = some r → I_RnE (I_Ex d) i_c2 (27, [some (.ref 1), none, none, some (.int l3), some (.int l4), some (.int l5)], [], i_S X M) none (i_S X r) := by
  intro n
  induction n with
  | zero => intro _ _ M r h; cases h
  | succ n hself =>
    intro l3 l5 M r h
    rw [b_Land_lay_L27] at h
    refine i_rs 3 (cf' := (33, [some (.ref 1), none, none, some (.int l3), some (.int l4), some (.int l5)], [.int (M.1 1 1), .int l5], i_S X M)) rfl ?_
    by_cases c3 : l5 < (M.1 1 1)
    · replace h := (if_pos c3).symm.trans h
      refine i_rbT (c := l5 < (M.1 1 1)) (t := 36) (n := 61) rfl c3 ?_
      refine i_rs 4 (cf' := (43, [some (.ref 1), none, none, some (.int l3), some (.int l4), some (.int l5)], [.int l4, .int l3, .ref 2], i_S X M)) rfl ?_
      obtain ⟨g4, h⟩ := i_gE h
      refine i_riast (n := 25) (cf' := (44, [some (.ref 1), none, none, some (.int l3), some (.int l4), some (.int l5)], [], i_S X (i_wI M 2 (Int32.toNatClampNeg l3) l4))) rfl rfl (Or.inl rfl) g4 rfl ?_
      refine i_rs 4 (cf' := (51, [some (.ref 1), none, none, some (.int l3), some (.int l4), some (.int l5)], [.int l5, .int l3, .ref 3], i_S X (i_wI M 2 (Int32.toNatClampNeg l3) l4))) rfl ?_
      refine i_riast (n := 25) (cf' := (52, [some (.ref 1), none, none, some (.int l3), some (.int l4), some (.int l5)], [], i_S X (i_wI (i_wI M 2 (Int32.toNatClampNeg l3) l4) 3 (Int32.toNatClampNeg l3) l5))) rfl rfl (Or.inl rfl) g4 rfl ?_
      refine i_rs 3 (cf' := (27, [some (.ref 1), none, none, some (.int (l3 + (1 : Int32))), some (.int l4), some (.int (l5 + (1 : Int32)))], [], i_S X (i_wI (i_wI M 2 (Int32.toNatClampNeg l3) l4) 3 (Int32.toNatClampNeg l3) l5))) rfl ?_
      refine i_fg (lv' := [some (.ref 1), none, none, some (.int (l3 + (1 : Int32))), some (.int l4), some (.int (l5 + (1 : Int32)))]) (And.intro rfl (And.intro rfl (And.intro rfl (And.intro rfl True.intro)))) ?_
      exact hself (l3 + (1 : Int32)) (l5 + (1 : Int32)) (i_wI (i_wI M 2 (Int32.toNatClampNeg l3) l4) 3 (Int32.toNatClampNeg l3) l5) _ h
    · replace h := (if_neg c3).symm.trans h
      refine i_rbF (c := l5 < (M.1 1 1)) (t := 36) (n := 61) rfl c3 ?_
      refine i_fg (lv' := [some (.ref 1), none, none, some (.int l3), some (.int l4), none]) (And.intro rfl (And.intro rfl (And.intro rfl True.intro))) ?_
      exact hk61 l3 M _ h
def b_Land_lay_L15 (k67 : I_M → Option I_M) : Nat → Int32 → Int32 → I_M → Option I_M
  | 0, _, _, _ => none
  | n + 1, l3, l4, M =>
    (if l4 < (M.1 1 0) then
        b_Land_lay_L27 l4 (fun l3_2 M2 =>
            (b_Land_lay_L15 k67 n) l3_2 (l4 + (1 : Int32)) M2) i_F l3 (0 : Int32) M
      else
        k67  M)
theorem ok_b_Land_lay_L15 {X : Nat × (Nat → Int32)} {d : Nat} {k67 : I_M → Option I_M} (hd : 2 ≤ d + 1) (hk67 : ∀ (M : I_M) (r : I_M), k67 M = some r → I_RnE (I_Ex d) i_c2 (67, [some (.ref 1), none, none, none, none, none], [], i_S X M) none (i_S X r)) : ∀ (n : Nat) (l3 : Int32) (l4 : Int32) (M : I_M) (r : I_M), b_Land_lay_L15 k67 n l3 l4 M = some r → I_RnE (I_Ex d) i_c2 (15, [some (.ref 1), none, none, some (.int l3), some (.int l4), none], [], i_S X M) none (i_S X r) := by
  intro n
  induction n with
  | zero => intro _ _ M r h; cases h
  | succ n hself =>
    intro l3 l4 M r h
    rw [b_Land_lay_L15] at h
    refine i_rs 3 (cf' := (21, [some (.ref 1), none, none, some (.int l3), some (.int l4), none], [.int (M.1 1 0), .int l4], i_S X M)) rfl ?_
    by_cases c1 : l4 < (M.1 1 0)
    · replace h := (if_pos c1).symm.trans h
      refine i_rbT (c := l4 < (M.1 1 0)) (t := 24) (n := 67) rfl c1 ?_
      refine i_rs 2 (cf' := (27, [some (.ref 1), none, none, some (.int l3), some (.int l4), some (.int (0 : Int32))], [], i_S X M)) rfl ?_
      refine i_fg (lv' := [some (.ref 1), none, none, some (.int l3), some (.int l4), some (.int (0 : Int32))]) (And.intro rfl (And.intro rfl (And.intro rfl (And.intro rfl True.intro)))) ?_
      refine ok_b_Land_lay_L27 (by omega) (fun l3_2 M2 r h => ?_) i_F l3 (0 : Int32) M _ h
      refine i_rs 2 (cf' := (15, [some (.ref 1), none, none, some (.int l3_2), some (.int (l4 + (1 : Int32))), none], [], i_S X M2)) rfl ?_
      refine i_fg (lv' := [some (.ref 1), none, none, some (.int l3_2), some (.int (l4 + (1 : Int32))), none]) (And.intro rfl (And.intro rfl (And.intro rfl True.intro))) ?_
      exact hself l3_2 (l4 + (1 : Int32)) M2 _ h
    · replace h := (if_neg c1).symm.trans h
      refine i_rbF (c := l4 < (M.1 1 0)) (t := 24) (n := 67) rfl c1 ?_
      refine i_fg (lv' := [some (.ref 1), none, none, none, none, none]) (And.intro rfl True.intro) ?_
      exact hk67  M _ h
def b_Land_lay (l1 : Int32) (l2 : Int32) (M : I_M) : Option I_M :=
  b_Land_lay_L15 (fun M5 =>
        Option.bind (j_fillI_4 (3 : Int32) M5) (fun q6 => Option.bind (j_fillI_5 (10 : Int32) q6) (fun q7 => some q7))) i_F (0 : Int32) (0 : Int32) (i_wI (i_wI M 1 0 l1) 1 1 l2)
theorem ok_b_Land_lay {X : Nat × (Nat → Int32)} {d : Nat} {l1 : Int32} {l2 : Int32} {M : I_M} {r : I_M} (hd : 2 ≤ d) (h : b_Land_lay l1 l2 M = some r) : I_Ex d 2 [.ref 1, .int l1, .int l2] (i_S X M) none (i_S X r) := by
  obtain ⟨d, rfl⟩ : ∃ d1, d = d1 + 1 := ⟨d - 1, by omega⟩
  unfold b_Land_lay at h
  refine i_ex (e := i_r2) (lv := [some (.ref 1), some (.int l1), some (.int l2), none, none, none]) rfl (Nat.le_of_ble_eq_true rfl) rfl ?_
  show I_RnE (I_Ex d) i_c2 (0, [some (.ref 1), some (.int l1), some (.int l2), none, none, none], [], i_S X M) _ _
  refine i_rs 10 (cf' := (15, [some (.ref 1), some (.int l1), some (.int l2), some (.int (0 : Int32)), some (.int (0 : Int32)), none], [], i_S X (i_wI (i_wI M 1 0 l1) 1 1 l2))) rfl ?_
  refine i_fg (lv' := [some (.ref 1), none, none, some (.int (0 : Int32)), some (.int (0 : Int32)), none]) (And.intro rfl (And.intro rfl (And.intro rfl True.intro))) ?_
  refine ok_b_Land_lay_L15 (by omega) (fun M5 r h => ?_) i_F (0 : Int32) (0 : Int32) (i_wI (i_wI M 1 0 l1) 1 1 l2) _ h
  refine i_rs 3 (cf' := (72, [some (.ref 1), none, none, none, none, none], [.int (3 : Int32), .ref 4], i_S X M5)) rfl ?_
  obtain ⟨q6, hq6, h⟩ := i_bdE h
  refine i_rcall (k := 3) (as := [.ref 4, .int (3 : Int32)]) (cf1 := (75, [some (.ref 1), none, none, none, none, none], [], i_S X M5)) (cf' := (75, [some (.ref 1), none, none, none, none, none], [], i_S X q6)) rfl (ok_j_fillI_4 (by omega) hq6) rfl ?_
  refine i_rs 3 (cf' := (81, [some (.ref 1), none, none, none, none, none], [.int (10 : Int32), .ref 5], i_S X q6)) rfl ?_
  obtain ⟨q7, hq7, h⟩ := i_bdE h
  refine i_rcall (k := 3) (as := [.ref 5, .int (10 : Int32)]) (cf1 := (84, [some (.ref 1), none, none, none, none, none], [], i_S X q6)) (cf' := (84, [some (.ref 1), none, none, none, none, none], [], i_S X q7)) rfl (ok_j_fillI_5 (by omega) hq7) rfl ?_
  obtain rfl := Option.some.inj h
  exact i_rret rfl rfl
def b_Hearings_clear_18 (M : I_M) : Option I_M :=
  some (i_wI M 18 3 (0 : Int32))
theorem ok_b_Hearings_clear_18 {X : Nat × (Nat → Int32)} {d : Nat} {M : I_M} {r : I_M} (hd : 1 ≤ d) (h : b_Hearings_clear_18 M = some r) : I_Ex d 16 [.ref 18] (i_S X M) none (i_S X r) := by
  obtain ⟨d, rfl⟩ : ∃ d1, d = d1 + 1 := ⟨d - 1, by omega⟩
  unfold b_Hearings_clear_18 at h
  refine i_ex (e := i_r16) (lv := [some (.ref 18)]) rfl (Nat.le_of_ble_eq_true rfl) rfl ?_
  show I_RnE (I_Ex d) i_c16 (0, [some (.ref 18)], [], i_S X M) _ _
  refine i_rs 3 (cf' := (5, [some (.ref 18)], [], i_S X (i_wI M 18 3 (0 : Int32)))) rfl ?_
  obtain rfl := Option.some.inj h
  exact i_rret rfl rfl
def b_Changes_clear (M : I_M) : Option I_M :=
  some (i_wI (i_wI M 31 4 (0 : Int32)) 31 5 (0 : Int32))
theorem ok_b_Changes_clear {X : Nat × (Nat → Int32)} {d : Nat} {M : I_M} {r : I_M} (hd : 1 ≤ d) (h : b_Changes_clear M = some r) : I_Ex d 17 [.ref 31] (i_S X M) none (i_S X r) := by
  obtain ⟨d, rfl⟩ : ∃ d1, d = d1 + 1 := ⟨d - 1, by omega⟩
  unfold b_Changes_clear at h
  refine i_ex (e := i_r17) (lv := [some (.ref 31)]) rfl (Nat.le_of_ble_eq_true rfl) rfl ?_
  show I_RnE (I_Ex d) i_c17 (0, [some (.ref 31)], [], i_S X M) _ _
  refine i_rs 6 (cf' := (10, [some (.ref 31)], [], i_S X (i_wI (i_wI M 31 4 (0 : Int32)) 31 5 (0 : Int32)))) rfl ?_
  obtain rfl := Option.some.inj h
  exact i_rret rfl rfl
def b_land (l1 : Int32) (M : I_M) : Option (Int32 × I_M) :=
  (if l1 < (0 : Int32) then
      some ((-1 : Int32), M)
    else
      Option.bind (b_isSide (l1 / (10 : Int32)) M) (fun q2 => (if q2.1 = (0 : Int32) then
        some ((-1 : Int32), q2.2)
      else
        Option.bind (b_isSide (i_rem l1 (10 : Int32)) q2.2) (fun q4 => (if q4.1 = (0 : Int32) then
          some ((-1 : Int32), q4.2)
        else
          (if (0 : Int32) < (q4.2.1 13 6) then
            some ((-5 : Int32), q4.2)
          else
            Option.bind (b_Land_lay (l1 / (10 : Int32)) (i_rem l1 (10 : Int32)) q4.2) (fun q7 => Option.bind (b_Hearings_clear_18 q7) (fun q8 => Option.bind (b_Changes_clear q8) (fun q9 => some ((((10 : Int32) * (q4.2.1 1 0)) + (q4.2.1 1 1)), (i_wI q9 0 14 (0 : Int32))))))))))))
theorem ok_b_land {X : Nat × (Nat → Int32)} {d : Nat} {l1 : Int32} {M : I_M} {r : (Int32 × I_M)} (hd : 3 ≤ d) (h : b_land l1 M = some r) : I_Ex d 14 [.ref 0, .int l1] (i_S X M) (some (.int r.1)) (i_S X r.2) := by
  obtain ⟨d, rfl⟩ : ∃ d1, d = d1 + 1 := ⟨d - 1, by omega⟩
  unfold b_land at h
  refine i_ex (e := i_r14) (lv := [some (.ref 0), some (.int l1), none, none, none]) rfl (Nat.le_of_ble_eq_true rfl) rfl ?_
  show I_RnE (I_Ex d) i_c14 (0, [some (.ref 0), some (.int l1), none, none, none], [], i_S X M) _ _
  refine i_rs 2 (cf' := (3, [some (.ref 0), some (.int l1), none, none, none], [.int (10 : Int32), .int l1], i_S X M)) rfl ?_
  refine i_rdiv (cf' := (4, [some (.ref 0), some (.int l1), none, none, none], [.int (l1 / (10 : Int32))], i_S X M)) rfl (by decide) rfl ?_
  refine i_rs 3 (cf' := (8, [some (.ref 0), some (.int l1), some (.int (l1 / (10 : Int32))), none, none], [.int (10 : Int32), .int l1], i_S X M)) rfl ?_
  refine i_rrem (cf' := (9, [some (.ref 0), some (.int l1), some (.int (l1 / (10 : Int32))), none, none], [.int (i_rem l1 (10 : Int32))], i_S X M)) rfl (by decide) rfl ?_
  refine i_rs 2 (cf' := (11, [some (.ref 0), some (.int l1), some (.int (l1 / (10 : Int32))), some (.int (i_rem l1 (10 : Int32))), none], [.int l1], i_S X M)) rfl ?_
  by_cases c1 : l1 < (0 : Int32)
  · replace h := (if_pos c1).symm.trans h
    refine i_rbT (c := l1 < (0 : Int32)) (t := 28) (n := 14) rfl c1 ?_
    refine i_rs 1 (cf' := (29, [some (.ref 0), some (.int l1), some (.int (l1 / (10 : Int32))), some (.int (i_rem l1 (10 : Int32))), none], [.int (-1 : Int32)], i_S X M)) rfl ?_
    obtain rfl := Option.some.inj h
    exact i_rret rfl rfl
  · replace h := (if_neg c1).symm.trans h
    refine i_rbF (c := l1 < (0 : Int32)) (t := 28) (n := 14) rfl c1 ?_
    refine i_rs 1 (cf' := (15, [some (.ref 0), some (.int l1), some (.int (l1 / (10 : Int32))), some (.int (i_rem l1 (10 : Int32))), none], [.int (l1 / (10 : Int32))], i_S X M)) rfl ?_
    obtain ⟨q2, hq2, h⟩ := i_bdE h
    refine i_rcall (k := 15) (as := [.int (l1 / (10 : Int32))]) (cf1 := (18, [some (.ref 0), some (.int l1), some (.int (l1 / (10 : Int32))), some (.int (i_rem l1 (10 : Int32))), none], [], i_S X M)) (cf' := (18, [some (.ref 0), some (.int l1), some (.int (l1 / (10 : Int32))), some (.int (i_rem l1 (10 : Int32))), none], [.int q2.1], i_S X q2.2)) rfl (ok_b_isSide (by omega) hq2) rfl ?_
    by_cases c3 : q2.1 = (0 : Int32)
    · replace h := (if_pos c3).symm.trans h
      refine i_rbT (c := q2.1 = (0 : Int32)) (t := 28) (n := 21) rfl c3 ?_
      refine i_rs 1 (cf' := (29, [some (.ref 0), some (.int l1), some (.int (l1 / (10 : Int32))), some (.int (i_rem l1 (10 : Int32))), none], [.int (-1 : Int32)], i_S X q2.2)) rfl ?_
      obtain rfl := Option.some.inj h
      exact i_rret rfl rfl
    · replace h := (if_neg c3).symm.trans h
      refine i_rbF (c := q2.1 = (0 : Int32)) (t := 28) (n := 21) rfl c3 ?_
      refine i_rs 1 (cf' := (22, [some (.ref 0), some (.int l1), some (.int (l1 / (10 : Int32))), some (.int (i_rem l1 (10 : Int32))), none], [.int (i_rem l1 (10 : Int32))], i_S X q2.2)) rfl ?_
      obtain ⟨q4, hq4, h⟩ := i_bdE h
      refine i_rcall (k := 15) (as := [.int (i_rem l1 (10 : Int32))]) (cf1 := (25, [some (.ref 0), some (.int l1), some (.int (l1 / (10 : Int32))), some (.int (i_rem l1 (10 : Int32))), none], [], i_S X q2.2)) (cf' := (25, [some (.ref 0), some (.int l1), some (.int (l1 / (10 : Int32))), some (.int (i_rem l1 (10 : Int32))), none], [.int q4.1], i_S X q4.2)) rfl (ok_b_isSide (by omega) hq4) rfl ?_
      by_cases c5 : q4.1 = (0 : Int32)
      · replace h := (if_pos c5).symm.trans h
        refine i_rbT (c := q4.1 = (0 : Int32)) (t := 28) (n := 30) rfl c5 ?_
        refine i_rs 1 (cf' := (29, [some (.ref 0), some (.int l1), some (.int (l1 / (10 : Int32))), some (.int (i_rem l1 (10 : Int32))), none], [.int (-1 : Int32)], i_S X q4.2)) rfl ?_
        obtain rfl := Option.some.inj h
        exact i_rret rfl rfl
      · replace h := (if_neg c5).symm.trans h
        refine i_rbF (c := q4.1 = (0 : Int32)) (t := 28) (n := 30) rfl c5 ?_
        refine i_rs 3 (cf' := (37, [some (.ref 0), some (.int l1), some (.int (l1 / (10 : Int32))), some (.int (i_rem l1 (10 : Int32))), none], [.int (q4.2.1 13 6)], i_S X q4.2)) rfl ?_
        by_cases c6 : (0 : Int32) < (q4.2.1 13 6)
        · replace h := (if_pos c6).symm.trans h
          refine i_rbT (c := (0 : Int32) < (q4.2.1 13 6)) (t := 40) (n := 43) rfl c6 ?_
          refine i_rs 1 (cf' := (42, [some (.ref 0), some (.int l1), some (.int (l1 / (10 : Int32))), some (.int (i_rem l1 (10 : Int32))), none], [.int (-5 : Int32)], i_S X q4.2)) rfl ?_
          obtain rfl := Option.some.inj h
          exact i_rret rfl rfl
        · replace h := (if_neg c6).symm.trans h
          refine i_rbF (c := (0 : Int32) < (q4.2.1 13 6)) (t := 40) (n := 43) rfl c6 ?_
          refine i_rs 14 (cf' := (69, [some (.ref 0), some (.int l1), some (.int (l1 / (10 : Int32))), some (.int (i_rem l1 (10 : Int32))), some (.int (((10 : Int32) * (q4.2.1 1 0)) + (q4.2.1 1 1)))], [.int (i_rem l1 (10 : Int32)), .int (l1 / (10 : Int32)), .ref 1], i_S X q4.2)) rfl ?_
          obtain ⟨q7, hq7, h⟩ := i_bdE h
          refine i_rcall (k := 2) (as := [.ref 1, .int (l1 / (10 : Int32)), .int (i_rem l1 (10 : Int32))]) (cf1 := (72, [some (.ref 0), some (.int l1), some (.int (l1 / (10 : Int32))), some (.int (i_rem l1 (10 : Int32))), some (.int (((10 : Int32) * (q4.2.1 1 0)) + (q4.2.1 1 1)))], [], i_S X q4.2)) (cf' := (72, [some (.ref 0), some (.int l1), some (.int (l1 / (10 : Int32))), some (.int (i_rem l1 (10 : Int32))), some (.int (((10 : Int32) * (q4.2.1 1 0)) + (q4.2.1 1 1)))], [], i_S X q7)) rfl (ok_b_Land_lay (by omega) hq7) rfl ?_
          refine i_rs 2 (cf' := (76, [some (.ref 0), some (.int l1), some (.int (l1 / (10 : Int32))), some (.int (i_rem l1 (10 : Int32))), some (.int (((10 : Int32) * (q4.2.1 1 0)) + (q4.2.1 1 1)))], [.ref 18], i_S X q7)) rfl ?_
          obtain ⟨q8, hq8, h⟩ := i_bdE h
          refine i_rcall (k := 16) (as := [.ref 18]) (cf1 := (79, [some (.ref 0), some (.int l1), some (.int (l1 / (10 : Int32))), some (.int (i_rem l1 (10 : Int32))), some (.int (((10 : Int32) * (q4.2.1 1 0)) + (q4.2.1 1 1)))], [], i_S X q7)) (cf' := (79, [some (.ref 0), some (.int l1), some (.int (l1 / (10 : Int32))), some (.int (i_rem l1 (10 : Int32))), some (.int (((10 : Int32) * (q4.2.1 1 0)) + (q4.2.1 1 1)))], [], i_S X q8)) rfl (ok_b_Hearings_clear_18 (by omega) hq8) rfl ?_
          refine i_rs 2 (cf' := (83, [some (.ref 0), some (.int l1), some (.int (l1 / (10 : Int32))), some (.int (i_rem l1 (10 : Int32))), some (.int (((10 : Int32) * (q4.2.1 1 0)) + (q4.2.1 1 1)))], [.ref 31], i_S X q8)) rfl ?_
          obtain ⟨q9, hq9, h⟩ := i_bdE h
          refine i_rcall (k := 17) (as := [.ref 31]) (cf1 := (86, [some (.ref 0), some (.int l1), some (.int (l1 / (10 : Int32))), some (.int (i_rem l1 (10 : Int32))), some (.int (((10 : Int32) * (q4.2.1 1 0)) + (q4.2.1 1 1)))], [], i_S X q8)) (cf' := (86, [some (.ref 0), some (.int l1), some (.int (l1 / (10 : Int32))), some (.int (i_rem l1 (10 : Int32))), some (.int (((10 : Int32) * (q4.2.1 1 0)) + (q4.2.1 1 1)))], [], i_S X q9)) rfl (ok_b_Changes_clear (by omega) hq9) rfl ?_
          refine i_rs 2 (cf' := (88, [some (.ref 0), some (.int l1), some (.int (l1 / (10 : Int32))), some (.int (i_rem l1 (10 : Int32))), some (.int (((10 : Int32) * (q4.2.1 1 0)) + (q4.2.1 1 1)))], [.int (0 : Int32), .ref 0], i_S X q9)) rfl ?_
          refine i_rpz (ci := 11) (k := 14) (a := 0) (b := 2168) (cf' := (91, [some (.ref 0), some (.int l1), some (.int (l1 / (10 : Int32))), some (.int (i_rem l1 (10 : Int32))), some (.int (((10 : Int32) * (q4.2.1 1 0)) + (q4.2.1 1 1)))], [], i_S X (i_wI q9 0 14 (0 : Int32)))) rfl rfl rfl (Or.inl rfl) rfl ?_
          refine i_rs 1 (cf' := (93, [some (.ref 0), some (.int l1), some (.int (l1 / (10 : Int32))), some (.int (i_rem l1 (10 : Int32))), some (.int (((10 : Int32) * (q4.2.1 1 0)) + (q4.2.1 1 1)))], [.int (((10 : Int32) * (q4.2.1 1 0)) + (q4.2.1 1 1))], i_S X (i_wI q9 0 14 (0 : Int32)))) rfl ?_
          obtain rfl := Option.some.inj h
          exact i_rret rfl rfl
def r_within (l0 : Int64) (l2 : Int64) (l4 : Int64) (M : I_M) : Option (Int32 × I_M) :=
  (if (lg_cmp l0 l2) < (0 : Int32) then
      some ((0 : Int32), M)
    else
      (if (0 : Int32) < (lg_cmp l0 l4) then
        some ((0 : Int32), M)
      else
        some ((1 : Int32), M)))
theorem ok_r_within {X : Nat × (Nat → Int32)} {d : Nat} {l0 : Int64} {l2 : Int64} {l4 : Int64} {M : I_M} {r : (Int32 × I_M)} (hd : 1 ≤ d) (h : r_within l0 l2 l4 M = some r) : I_Ex d 175 [.long l0, .long l2, .long l4] (i_S X M) (some (.int r.1)) (i_S X r.2) := by
  obtain ⟨d, rfl⟩ : ∃ d1, d = d1 + 1 := ⟨d - 1, by omega⟩
  unfold r_within at h
  refine i_ex (e := i_r175) (lv := [some (.long l0), none, some (.long l2), none, some (.long l4), none]) rfl (Nat.le_of_ble_eq_true rfl) rfl ?_
  show I_RnE (I_Ex d) i_c175 (0, [some (.long l0), none, some (.long l2), none, some (.long l4), none], [], i_S X M) _ _
  refine i_rs 3 (cf' := (3, [some (.long l0), none, some (.long l2), none, some (.long l4), none], [.int (lg_cmp l0 l2)], i_S X M)) rfl ?_
  by_cases c1 : (lg_cmp l0 l2) < (0 : Int32)
  · replace h := (if_pos c1).symm.trans h
    refine i_rbT (c := (lg_cmp l0 l2) < (0 : Int32)) (t := 17) (n := 6) rfl c1 ?_
    refine i_rs 1 (cf' := (18, [some (.long l0), none, some (.long l2), none, some (.long l4), none], [.int (0 : Int32)], i_S X M)) rfl ?_
    obtain rfl := Option.some.inj h
    exact i_rretZ rfl (Or.inl rfl) rfl
  · replace h := (if_neg c1).symm.trans h
    refine i_rbF (c := (lg_cmp l0 l2) < (0 : Int32)) (t := 17) (n := 6) rfl c1 ?_
    refine i_rs 3 (cf' := (10, [some (.long l0), none, some (.long l2), none, some (.long l4), none], [.int (lg_cmp l0 l4)], i_S X M)) rfl ?_
    by_cases c2 : (0 : Int32) < (lg_cmp l0 l4)
    · replace h := (if_pos c2).symm.trans h
      refine i_rbT (c := (0 : Int32) < (lg_cmp l0 l4)) (t := 17) (n := 13) rfl c2 ?_
      refine i_rs 1 (cf' := (18, [some (.long l0), none, some (.long l2), none, some (.long l4), none], [.int (0 : Int32)], i_S X M)) rfl ?_
      obtain rfl := Option.some.inj h
      exact i_rretZ rfl (Or.inl rfl) rfl
    · replace h := (if_neg c2).symm.trans h
      refine i_rbF (c := (0 : Int32) < (lg_cmp l0 l4)) (t := 17) (n := 13) rfl c2 ?_
      refine i_rs 2 (cf' := (18, [some (.long l0), none, some (.long l2), none, some (.long l4), none], [.int (1 : Int32)], i_S X M)) rfl ?_
      obtain rfl := Option.some.inj h
      exact i_rretZ rfl (Or.inr rfl) rfl
def r_laysLand_L2 : Nat → Int32 → I_M → Option I_M
  | 0, _, _ => none
  | n + 1, l1, M =>
    (if l1 < (25 : Int32) then
        i_g l1 60 (i_g ((25 : Int32) + l1) 60 ((r_laysLand_L2 n) (l1 + (1 : Int32)) (i_wI (i_wI M 51 (Int32.toNatClampNeg l1) (3 : Int32)) 51 (Int32.toNatClampNeg ((25 : Int32) + l1)) (10 : Int32))))
      else
        some M)
theorem ok_r_laysLand_L2 {X : Nat × (Nat → Int32)} {d : Nat} (hd : 1 ≤ d + 1) : ∀ (n : Nat) (l1 : Int32) (M : I_M) (r : I_M), r_laysLand_L2 n l1 M = some r → I_RnE (I_Ex d) i_c171 (2, [some (.ref 50), some (.int l1)], [], i_S X M) none (i_S X r) := by
  intro n
  induction n with
  | zero => intro _ M r h; cases h
  | succ n hself =>
    intro l1 M r h
    rw [r_laysLand_L2] at h
    refine i_rs 2 (cf' := (5, [some (.ref 50), some (.int l1)], [.int (25 : Int32), .int l1], i_S X M)) rfl ?_
    by_cases c1 : l1 < (25 : Int32)
    · replace h := (if_pos c1).symm.trans h
      refine i_rbT (c := l1 < (25 : Int32)) (t := 8) (n := 32) rfl c1 ?_
      refine i_rs 4 (cf' := (14, [some (.ref 50), some (.int l1)], [.int (3 : Int32), .int l1, .ref 51], i_S X M)) rfl ?_
      obtain ⟨g2, h⟩ := i_gE h
      refine i_riast (n := 60) (cf' := (15, [some (.ref 50), some (.int l1)], [], i_S X (i_wI M 51 (Int32.toNatClampNeg l1) (3 : Int32)))) rfl rfl (Or.inl rfl) g2 rfl ?_
      refine i_rs 6 (cf' := (25, [some (.ref 50), some (.int l1)], [.int (10 : Int32), .int ((25 : Int32) + l1), .ref 51], i_S X (i_wI M 51 (Int32.toNatClampNeg l1) (3 : Int32)))) rfl ?_
      obtain ⟨g3, h⟩ := i_gE h
      refine i_riast (n := 60) (cf' := (26, [some (.ref 50), some (.int l1)], [], i_S X (i_wI (i_wI M 51 (Int32.toNatClampNeg l1) (3 : Int32)) 51 (Int32.toNatClampNeg ((25 : Int32) + l1)) (10 : Int32)))) rfl rfl (Or.inl rfl) g3 rfl ?_
      refine i_rs 2 (cf' := (2, [some (.ref 50), some (.int (l1 + (1 : Int32)))], [], i_S X (i_wI (i_wI M 51 (Int32.toNatClampNeg l1) (3 : Int32)) 51 (Int32.toNatClampNeg ((25 : Int32) + l1)) (10 : Int32)))) rfl ?_
      refine i_fg (lv' := [some (.ref 50), some (.int (l1 + (1 : Int32)))]) (And.intro rfl (And.intro rfl True.intro)) ?_
      exact hself (l1 + (1 : Int32)) (i_wI (i_wI M 51 (Int32.toNatClampNeg l1) (3 : Int32)) 51 (Int32.toNatClampNeg ((25 : Int32) + l1)) (10 : Int32)) _ h
    · replace h := (if_neg c1).symm.trans h
      refine i_rbF (c := l1 < (25 : Int32)) (t := 8) (n := 32) rfl c1 ?_
      obtain rfl := Option.some.inj h
      exact i_rret rfl rfl
def r_laysLand (M : I_M) : Option I_M :=
  r_laysLand_L2 i_F (0 : Int32) M
theorem ok_r_laysLand {X : Nat × (Nat → Int32)} {d : Nat} {M : I_M} {r : I_M} (hd : 1 ≤ d) (h : r_laysLand M = some r) : I_Ex d 171 [.ref 50] (i_S X M) none (i_S X r) := by
  obtain ⟨d, rfl⟩ : ∃ d1, d = d1 + 1 := ⟨d - 1, by omega⟩
  unfold r_laysLand at h
  refine i_ex (e := i_r171) (lv := [some (.ref 50), none]) rfl (Nat.le_of_ble_eq_true rfl) rfl ?_
  show I_RnE (I_Ex d) i_c171 (0, [some (.ref 50), none], [], i_S X M) _ _
  refine i_rs 2 (cf' := (2, [some (.ref 50), some (.int (0 : Int32))], [], i_S X M)) rfl ?_
  refine i_fg (lv' := [some (.ref 50), some (.int (0 : Int32))]) (And.intro rfl (And.intro rfl True.intro)) ?_
  refine ok_r_laysLand_L2 (by omega) i_F (0 : Int32) M _ h
def r_land (l1 : Int32) (M : I_M) : Option (Int32 × I_M) :=
  (if l1 < (0 : Int32) then
      some ((-1 : Int32), M)
    else
      Option.bind (r_within (Int32.toInt64 (l1 / (10 : Int32))) (1 : Int64) (5 : Int64) M) (fun q2 => (if q2.1 = (0 : Int32) then
        some ((-1 : Int32), q2.2)
      else
        Option.bind (r_within (Int32.toInt64 (i_rem l1 (10 : Int32))) (1 : Int64) (5 : Int64) q2.2) (fun q4 => (if q4.1 = (0 : Int32) then
          some ((-1 : Int32), q4.2)
        else
          (if (0 : Int32) < (q4.2.1 50 8) then
            some ((-5 : Int32), q4.2)
          else
            Option.bind (r_laysLand (i_wI (i_wI q4.2 50 6 (l1 / (10 : Int32))) 50 7 (i_rem l1 (10 : Int32)))) (fun q7 => some ((((10 : Int32) * (q4.2.1 50 6)) + (q4.2.1 50 7)), (i_wI (i_wI (i_wI (i_wI q7 50 24 (0 : Int32)) 50 5 (0 : Int32)) 50 4 (0 : Int32)) 50 41 (0 : Int32))))))))))
theorem ok_r_land {X : Nat × (Nat → Int32)} {d : Nat} {l1 : Int32} {M : I_M} {r : (Int32 × I_M)} (hd : 2 ≤ d) (h : r_land l1 M = some r) : I_Ex d 174 [.ref 50, .int l1] (i_S X M) (some (.int r.1)) (i_S X r.2) := by
  obtain ⟨d, rfl⟩ : ∃ d1, d = d1 + 1 := ⟨d - 1, by omega⟩
  unfold r_land at h
  refine i_ex (e := i_r174) (lv := [some (.ref 50), some (.int l1), none]) rfl (Nat.le_of_ble_eq_true rfl) rfl ?_
  show I_RnE (I_Ex d) i_c174 (0, [some (.ref 50), some (.int l1), none], [], i_S X M) _ _
  refine i_rs 1 (cf' := (1, [some (.ref 50), some (.int l1), none], [.int l1], i_S X M)) rfl ?_
  by_cases c1 : l1 < (0 : Int32)
  · replace h := (if_pos c1).symm.trans h
    refine i_rbT (c := l1 < (0 : Int32)) (t := 34) (n := 4) rfl c1 ?_
    refine i_rs 1 (cf' := (35, [some (.ref 50), some (.int l1), none], [.int (-1 : Int32)], i_S X M)) rfl ?_
    obtain rfl := Option.some.inj h
    exact i_rret rfl rfl
  · replace h := (if_neg c1).symm.trans h
    refine i_rbF (c := l1 < (0 : Int32)) (t := 34) (n := 4) rfl c1 ?_
    refine i_rs 2 (cf' := (7, [some (.ref 50), some (.int l1), none], [.int (10 : Int32), .int l1], i_S X M)) rfl ?_
    refine i_rdiv (cf' := (8, [some (.ref 50), some (.int l1), none], [.int (l1 / (10 : Int32))], i_S X M)) rfl (by decide) rfl ?_
    refine i_rs 3 (cf' := (13, [some (.ref 50), some (.int l1), none], [.long (5 : Int64), .long (1 : Int64), .long (Int32.toInt64 (l1 / (10 : Int32)))], i_S X M)) rfl ?_
    obtain ⟨q2, hq2, h⟩ := i_bdE h
    refine i_rcall (k := 175) (as := [.long (Int32.toInt64 (l1 / (10 : Int32))), .long (1 : Int64), .long (5 : Int64)]) (cf1 := (16, [some (.ref 50), some (.int l1), none], [], i_S X M)) (cf' := (16, [some (.ref 50), some (.int l1), none], [.int q2.1], i_S X q2.2)) rfl (ok_r_within (by omega) hq2) rfl ?_
    by_cases c3 : q2.1 = (0 : Int32)
    · replace h := (if_pos c3).symm.trans h
      refine i_rbT (c := q2.1 = (0 : Int32)) (t := 34) (n := 19) rfl c3 ?_
      refine i_rs 1 (cf' := (35, [some (.ref 50), some (.int l1), none], [.int (-1 : Int32)], i_S X q2.2)) rfl ?_
      obtain rfl := Option.some.inj h
      exact i_rret rfl rfl
    · replace h := (if_neg c3).symm.trans h
      refine i_rbF (c := q2.1 = (0 : Int32)) (t := 34) (n := 19) rfl c3 ?_
      refine i_rs 2 (cf' := (22, [some (.ref 50), some (.int l1), none], [.int (10 : Int32), .int l1], i_S X q2.2)) rfl ?_
      refine i_rrem (cf' := (23, [some (.ref 50), some (.int l1), none], [.int (i_rem l1 (10 : Int32))], i_S X q2.2)) rfl (by decide) rfl ?_
      refine i_rs 3 (cf' := (28, [some (.ref 50), some (.int l1), none], [.long (5 : Int64), .long (1 : Int64), .long (Int32.toInt64 (i_rem l1 (10 : Int32)))], i_S X q2.2)) rfl ?_
      obtain ⟨q4, hq4, h⟩ := i_bdE h
      refine i_rcall (k := 175) (as := [.long (Int32.toInt64 (i_rem l1 (10 : Int32))), .long (1 : Int64), .long (5 : Int64)]) (cf1 := (31, [some (.ref 50), some (.int l1), none], [], i_S X q2.2)) (cf' := (31, [some (.ref 50), some (.int l1), none], [.int q4.1], i_S X q4.2)) rfl (ok_r_within (by omega) hq4) rfl ?_
      by_cases c5 : q4.1 = (0 : Int32)
      · replace h := (if_pos c5).symm.trans h
        refine i_rbT (c := q4.1 = (0 : Int32)) (t := 34) (n := 36) rfl c5 ?_
        refine i_rs 1 (cf' := (35, [some (.ref 50), some (.int l1), none], [.int (-1 : Int32)], i_S X q4.2)) rfl ?_
        obtain rfl := Option.some.inj h
        exact i_rret rfl rfl
      · replace h := (if_neg c5).symm.trans h
        refine i_rbF (c := q4.1 = (0 : Int32)) (t := 34) (n := 36) rfl c5 ?_
        refine i_rs 2 (cf' := (40, [some (.ref 50), some (.int l1), none], [.int (q4.2.1 50 8)], i_S X q4.2)) rfl ?_
        by_cases c6 : (0 : Int32) < (q4.2.1 50 8)
        · replace h := (if_pos c6).symm.trans h
          refine i_rbT (c := (0 : Int32) < (q4.2.1 50 8)) (t := 43) (n := 46) rfl c6 ?_
          refine i_rs 1 (cf' := (45, [some (.ref 50), some (.int l1), none], [.int (-5 : Int32)], i_S X q4.2)) rfl ?_
          obtain rfl := Option.some.inj h
          exact i_rret rfl rfl
        · replace h := (if_neg c6).symm.trans h
          refine i_rbF (c := (0 : Int32) < (q4.2.1 50 8)) (t := 43) (n := 46) rfl c6 ?_
          refine i_rs 11 (cf' := (63, [some (.ref 50), some (.int l1), some (.int (((10 : Int32) * (q4.2.1 50 6)) + (q4.2.1 50 7)))], [.int (10 : Int32), .int l1, .ref 50], i_S X q4.2)) rfl ?_
          refine i_rdiv (cf' := (64, [some (.ref 50), some (.int l1), some (.int (((10 : Int32) * (q4.2.1 50 6)) + (q4.2.1 50 7)))], [.int (l1 / (10 : Int32)), .ref 50], i_S X q4.2)) rfl (by decide) rfl ?_
          refine i_rs 4 (cf' := (71, [some (.ref 50), some (.int l1), some (.int (((10 : Int32) * (q4.2.1 50 6)) + (q4.2.1 50 7)))], [.int (10 : Int32), .int l1, .ref 50], i_S X (i_wI q4.2 50 6 (l1 / (10 : Int32))))) rfl ?_
          refine i_rrem (cf' := (72, [some (.ref 50), some (.int l1), some (.int (((10 : Int32) * (q4.2.1 50 6)) + (q4.2.1 50 7)))], [.int (i_rem l1 (10 : Int32)), .ref 50], i_S X (i_wI q4.2 50 6 (l1 / (10 : Int32))))) rfl (by decide) rfl ?_
          refine i_rs 2 (cf' := (76, [some (.ref 50), some (.int l1), some (.int (((10 : Int32) * (q4.2.1 50 6)) + (q4.2.1 50 7)))], [.ref 50], i_S X (i_wI (i_wI q4.2 50 6 (l1 / (10 : Int32))) 50 7 (i_rem l1 (10 : Int32))))) rfl ?_
          obtain ⟨q7, hq7, h⟩ := i_bdE h
          refine i_rcall (k := 171) (as := [.ref 50]) (cf1 := (79, [some (.ref 50), some (.int l1), some (.int (((10 : Int32) * (q4.2.1 50 6)) + (q4.2.1 50 7)))], [], i_S X (i_wI (i_wI q4.2 50 6 (l1 / (10 : Int32))) 50 7 (i_rem l1 (10 : Int32))))) (cf' := (79, [some (.ref 50), some (.int l1), some (.int (((10 : Int32) * (q4.2.1 50 6)) + (q4.2.1 50 7)))], [], i_S X q7)) rfl (ok_r_laysLand (by omega) hq7) rfl ?_
          refine i_rs 11 (cf' := (96, [some (.ref 50), some (.int l1), some (.int (((10 : Int32) * (q4.2.1 50 6)) + (q4.2.1 50 7)))], [.int (0 : Int32), .ref 50], i_S X (i_wI (i_wI (i_wI q7 50 24 (0 : Int32)) 50 5 (0 : Int32)) 50 4 (0 : Int32)))) rfl ?_
          refine i_rpz (ci := 12) (k := 41) (a := 0) (b := 6010) (cf' := (99, [some (.ref 50), some (.int l1), some (.int (((10 : Int32) * (q4.2.1 50 6)) + (q4.2.1 50 7)))], [], i_S X (i_wI (i_wI (i_wI (i_wI q7 50 24 (0 : Int32)) 50 5 (0 : Int32)) 50 4 (0 : Int32)) 50 41 (0 : Int32)))) rfl rfl rfl (Or.inl rfl) rfl ?_
          refine i_rs 1 (cf' := (100, [some (.ref 50), some (.int l1), some (.int (((10 : Int32) * (q4.2.1 50 6)) + (q4.2.1 50 7)))], [.int (((10 : Int32) * (q4.2.1 50 6)) + (q4.2.1 50 7))], i_S X (i_wI (i_wI (i_wI (i_wI q7 50 24 (0 : Int32)) 50 5 (0 : Int32)) 50 4 (0 : Int32)) 50 41 (0 : Int32)))) rfl ?_
          obtain rfl := Option.some.inj h
          exact i_rret rfl rfl
def b_Land_cells (M : I_M) : Option (Int32 × I_M) :=
  some (((M.1 1 0) * (M.1 1 1)), M)
theorem ok_b_Land_cells {X : Nat × (Nat → Int32)} {d : Nat} {M : I_M} {r : (Int32 × I_M)} (hd : 1 ≤ d) (h : b_Land_cells M = some r) : I_Ex d 21 [.ref 1] (i_S X M) (some (.int r.1)) (i_S X r.2) := by
  obtain ⟨d, rfl⟩ : ∃ d1, d = d1 + 1 := ⟨d - 1, by omega⟩
  unfold b_Land_cells at h
  refine i_ex (e := i_r21) (lv := [some (.ref 1)]) rfl (Nat.le_of_ble_eq_true rfl) rfl ?_
  show I_RnE (I_Ex d) i_c21 (0, [some (.ref 1)], [], i_S X M) _ _
  refine i_rs 5 (cf' := (9, [some (.ref 1)], [.int ((M.1 1 0) * (M.1 1 1))], i_S X M)) rfl ?_
  obtain rfl := Option.some.inj h
  exact i_rret rfl rfl
def b_Land_has (l1 : Int32) (M : I_M) : Option (Int32 × I_M) :=
  (if l1 < (0 : Int32) then
      some ((0 : Int32), M)
    else
      Option.bind (b_Land_cells M) (fun q2 => (if l1 < q2.1 then
        some ((1 : Int32), q2.2)
      else
        some ((0 : Int32), q2.2))))
theorem ok_b_Land_has {X : Nat × (Nat → Int32)} {d : Nat} {l1 : Int32} {M : I_M} {r : (Int32 × I_M)} (hd : 2 ≤ d) (h : b_Land_has l1 M = some r) : I_Ex d 20 [.ref 1, .int l1] (i_S X M) (some (.int r.1)) (i_S X r.2) := by
  obtain ⟨d, rfl⟩ : ∃ d1, d = d1 + 1 := ⟨d - 1, by omega⟩
  unfold b_Land_has at h
  refine i_ex (e := i_r20) (lv := [some (.ref 1), some (.int l1)]) rfl (Nat.le_of_ble_eq_true rfl) rfl ?_
  show I_RnE (I_Ex d) i_c20 (0, [some (.ref 1), some (.int l1)], [], i_S X M) _ _
  refine i_rs 1 (cf' := (1, [some (.ref 1), some (.int l1)], [.int l1], i_S X M)) rfl ?_
  by_cases c1 : l1 < (0 : Int32)
  · replace h := (if_pos c1).symm.trans h
    refine i_rbT (c := l1 < (0 : Int32)) (t := 16) (n := 4) rfl c1 ?_
    refine i_rs 1 (cf' := (17, [some (.ref 1), some (.int l1)], [.int (0 : Int32)], i_S X M)) rfl ?_
    obtain rfl := Option.some.inj h
    exact i_rretZ rfl (Or.inl rfl) rfl
  · replace h := (if_neg c1).symm.trans h
    refine i_rbF (c := l1 < (0 : Int32)) (t := 16) (n := 4) rfl c1 ?_
    refine i_rs 2 (cf' := (6, [some (.ref 1), some (.int l1)], [.ref 1, .int l1], i_S X M)) rfl ?_
    obtain ⟨q2, hq2, h⟩ := i_bdE h
    refine i_rcall (k := 21) (as := [.ref 1]) (cf1 := (9, [some (.ref 1), some (.int l1)], [.int l1], i_S X M)) (cf' := (9, [some (.ref 1), some (.int l1)], [.int q2.1, .int l1], i_S X q2.2)) rfl (ok_b_Land_cells (by omega) hq2) rfl ?_
    by_cases c3 : l1 < q2.1
    · replace h := (if_pos c3).symm.trans h
      refine i_rbT (c := l1 < q2.1) (t := 12) (n := 16) rfl c3 ?_
      refine i_rs 2 (cf' := (17, [some (.ref 1), some (.int l1)], [.int (1 : Int32)], i_S X q2.2)) rfl ?_
      obtain rfl := Option.some.inj h
      exact i_rretZ rfl (Or.inr rfl) rfl
    · replace h := (if_neg c3).symm.trans h
      refine i_rbF (c := l1 < q2.1) (t := 12) (n := 16) rfl c3 ?_
      refine i_rs 1 (cf' := (17, [some (.ref 1), some (.int l1)], [.int (0 : Int32)], i_S X q2.2)) rfl ?_
      obtain rfl := Option.some.inj h
      exact i_rretZ rfl (Or.inl rfl) rfl
def b_Buried_inCell_L2 (l1 : Int32) : Nat → Int32 → I_M → Option (Int32 × I_M)
  | 0, _, _ => none
  | n + 1, l2, M =>
    (if l2 < (M.1 13 6) then
        i_g l2 6 ((if (M.1 14 (Int32.toNatClampNeg l2)) = l1 then
          some (l2, M)
        else
          (b_Buried_inCell_L2 l1 n) (l2 + (1 : Int32)) M))
      else
        some ((-2 : Int32), M))
theorem ok_b_Buried_inCell_L2 {X : Nat × (Nat → Int32)} {d : Nat} {l1 : Int32} (hd : 1 ≤ d + 1) : ∀ (n : Nat) (l2 : Int32) (M : I_M) (r : (Int32 × I_M)), b_Buried_inCell_L2 l1 n l2 M = some r → I_RnE (I_Ex d) i_c22 (2, [some (.ref 13), some (.int l1), some (.int l2)], [], i_S X M) (some (.int r.1)) (i_S X r.2) := by
  intro n
  induction n with
  | zero => intro _ M r h; cases h
  | succ n hself =>
    intro l2 M r h
    rw [b_Buried_inCell_L2] at h
    refine i_rs 3 (cf' := (7, [some (.ref 13), some (.int l1), some (.int l2)], [.int (M.1 13 6), .int l2], i_S X M)) rfl ?_
    by_cases c1 : l2 < (M.1 13 6)
    · replace h := (if_pos c1).symm.trans h
      refine i_rbT (c := l2 < (M.1 13 6)) (t := 10) (n := 28) rfl c1 ?_
      refine i_rs 3 (cf' := (15, [some (.ref 13), some (.int l1), some (.int l2)], [.int l2, .ref 14], i_S X M)) rfl ?_
      obtain ⟨g2, h⟩ := i_gE h
      refine i_riald (n := 6) (cf' := (16, [some (.ref 13), some (.int l1), some (.int l2)], [.int (M.1 14 (Int32.toNatClampNeg l2))], i_S X M)) rfl rfl (by decide) g2 rfl ?_
      refine i_rs 1 (cf' := (17, [some (.ref 13), some (.int l1), some (.int l2)], [.int l1, .int (M.1 14 (Int32.toNatClampNeg l2))], i_S X M)) rfl ?_
      by_cases c3 : (M.1 14 (Int32.toNatClampNeg l2)) = l1
      · replace h := (if_pos c3).symm.trans h
        refine i_rbT (c := (M.1 14 (Int32.toNatClampNeg l2)) = l1) (t := 20) (n := 22) rfl c3 ?_
        refine i_rs 1 (cf' := (21, [some (.ref 13), some (.int l1), some (.int l2)], [.int l2], i_S X M)) rfl ?_
        obtain rfl := Option.some.inj h
        exact i_rret rfl rfl
      · replace h := (if_neg c3).symm.trans h
        refine i_rbF (c := (M.1 14 (Int32.toNatClampNeg l2)) = l1) (t := 20) (n := 22) rfl c3 ?_
        refine i_rs 2 (cf' := (2, [some (.ref 13), some (.int l1), some (.int (l2 + (1 : Int32)))], [], i_S X M)) rfl ?_
        refine i_fg (lv' := [some (.ref 13), some (.int l1), some (.int (l2 + (1 : Int32)))]) (And.intro rfl (And.intro rfl (And.intro rfl True.intro))) ?_
        exact hself (l2 + (1 : Int32)) M _ h
    · replace h := (if_neg c1).symm.trans h
      refine i_rbF (c := l2 < (M.1 13 6)) (t := 10) (n := 28) rfl c1 ?_
      refine i_rs 1 (cf' := (30, [some (.ref 13), some (.int l1), some (.int l2)], [.int (-2 : Int32)], i_S X M)) rfl ?_
      obtain rfl := Option.some.inj h
      exact i_rret rfl rfl
def b_Buried_inCell (l1 : Int32) (M : I_M) : Option (Int32 × I_M) :=
  b_Buried_inCell_L2 l1 i_F (0 : Int32) M
theorem ok_b_Buried_inCell {X : Nat × (Nat → Int32)} {d : Nat} {l1 : Int32} {M : I_M} {r : (Int32 × I_M)} (hd : 1 ≤ d) (h : b_Buried_inCell l1 M = some r) : I_Ex d 22 [.ref 13, .int l1] (i_S X M) (some (.int r.1)) (i_S X r.2) := by
  obtain ⟨d, rfl⟩ : ∃ d1, d = d1 + 1 := ⟨d - 1, by omega⟩
  unfold b_Buried_inCell at h
  refine i_ex (e := i_r22) (lv := [some (.ref 13), some (.int l1), none]) rfl (Nat.le_of_ble_eq_true rfl) rfl ?_
  show I_RnE (I_Ex d) i_c22 (0, [some (.ref 13), some (.int l1), none], [], i_S X M) _ _
  refine i_rs 2 (cf' := (2, [some (.ref 13), some (.int l1), some (.int (0 : Int32))], [], i_S X M)) rfl ?_
  refine i_fg (lv' := [some (.ref 13), some (.int l1), some (.int (0 : Int32))]) (And.intro rfl (And.intro rfl (And.intro rfl True.intro))) ?_
  refine ok_b_Buried_inCell_L2 (by omega) i_F (0 : Int32) M _ h
def b_Buried_bury (l1 : Int32) (l2 : Int32) (l3 : Int32) (l4 : Int32) (M : I_M) : Option (Int32 × I_M) :=
  Option.bind (b_Land_has l1 M) (fun q1 => (if q1.1 = (0 : Int32) then
      some ((-1 : Int32), q1.2)
    else
      Option.bind (b_Buried_inCell l1 q1.2) (fun q3 => (if q3.1 = (-2 : Int32) then
        (if l2 < (0 : Int32) then
          some ((-1 : Int32), q3.2)
        else
          (if l2 < (10 : Int32) then
            (if l3 < (0 : Int32) then
              some ((-1 : Int32), q3.2)
            else
              (if (9 : Int32) < l3 then
                some ((-1 : Int32), q3.2)
              else
                (if l4 < (0 : Int32) then
                  some ((-1 : Int32), q3.2)
                else
                  (if (1 : Int32) < l4 then
                    some ((-1 : Int32), q3.2)
                  else
                    (if (q3.2.1 13 6) < (6 : Int32) then
                      i_g (q3.2.1 13 6) 6 (some ((((q3.2.1 13 6) + (1 : Int32)) - (1 : Int32)), (i_wI (i_wI (i_wI (i_wI (i_wI q3.2 14 (Int32.toNatClampNeg (q3.2.1 13 6)) l1) 15 (Int32.toNatClampNeg (q3.2.1 13 6)) l2) 16 (Int32.toNatClampNeg (q3.2.1 13 6)) l3) 17 (Int32.toNatClampNeg (q3.2.1 13 6)) l4) 13 6 ((q3.2.1 13 6) + (1 : Int32)))))
                    else
                      some ((-3 : Int32), q3.2))))))
          else
            some ((-1 : Int32), q3.2)))
      else
        some ((-1 : Int32), q3.2)))))
theorem ok_b_Buried_bury {X : Nat × (Nat → Int32)} {d : Nat} {l1 : Int32} {l2 : Int32} {l3 : Int32} {l4 : Int32} {M : I_M} {r : (Int32 × I_M)} (hd : 3 ≤ d) (h : b_Buried_bury l1 l2 l3 l4 M = some r) : I_Ex d 19 [.ref 13, .int l1, .int l2, .int l3, .int l4] (i_S X M) (some (.int r.1)) (i_S X r.2) := by
  obtain ⟨d, rfl⟩ : ∃ d1, d = d1 + 1 := ⟨d - 1, by omega⟩
  unfold b_Buried_bury at h
  refine i_ex (e := i_r19) (lv := [some (.ref 13), some (.int l1), some (.int l2), some (.int l3), some (.int l4)]) rfl (Nat.le_of_ble_eq_true rfl) rfl ?_
  show I_RnE (I_Ex d) i_c19 (0, [some (.ref 13), some (.int l1), some (.int l2), some (.int l3), some (.int l4)], [], i_S X M) _ _
  refine i_rs 3 (cf' := (5, [some (.ref 13), some (.int l1), some (.int l2), some (.int l3), some (.int l4)], [.int l1, .ref 1], i_S X M)) rfl ?_
  obtain ⟨q1, hq1, h⟩ := i_bdE h
  refine i_rcall (k := 20) (as := [.ref 1, .int l1]) (cf1 := (8, [some (.ref 13), some (.int l1), some (.int l2), some (.int l3), some (.int l4)], [], i_S X M)) (cf' := (8, [some (.ref 13), some (.int l1), some (.int l2), some (.int l3), some (.int l4)], [.int q1.1], i_S X q1.2)) rfl (ok_b_Land_has (by omega) hq1) rfl ?_
  by_cases c2 : q1.1 = (0 : Int32)
  · replace h := (if_pos c2).symm.trans h
    refine i_rbT (c := q1.1 = (0 : Int32)) (t := 52) (n := 11) rfl c2 ?_
    refine i_rs 1 (cf' := (53, [some (.ref 13), some (.int l1), some (.int l2), some (.int l3), some (.int l4)], [.int (-1 : Int32)], i_S X q1.2)) rfl ?_
    obtain rfl := Option.some.inj h
    exact i_rret rfl rfl
  · replace h := (if_neg c2).symm.trans h
    refine i_rbF (c := q1.1 = (0 : Int32)) (t := 52) (n := 11) rfl c2 ?_
    refine i_rs 2 (cf' := (13, [some (.ref 13), some (.int l1), some (.int l2), some (.int l3), some (.int l4)], [.int l1, .ref 13], i_S X q1.2)) rfl ?_
    obtain ⟨q3, hq3, h⟩ := i_bdE h
    refine i_rcall (k := 22) (as := [.ref 13, .int l1]) (cf1 := (16, [some (.ref 13), some (.int l1), some (.int l2), some (.int l3), some (.int l4)], [], i_S X q1.2)) (cf' := (16, [some (.ref 13), some (.int l1), some (.int l2), some (.int l3), some (.int l4)], [.int q3.1], i_S X q3.2)) rfl (ok_b_Buried_inCell (by omega) hq3) rfl ?_
    refine i_rs 1 (cf' := (18, [some (.ref 13), some (.int l1), some (.int l2), some (.int l3), some (.int l4)], [.int (-2 : Int32), .int q3.1], i_S X q3.2)) rfl ?_
    by_cases c4 : q3.1 = (-2 : Int32)
    · replace h := (if_pos c4).symm.trans h
      refine i_rbT (c := q3.1 = (-2 : Int32)) (t := 21) (n := 52) rfl c4 ?_
      refine i_rs 1 (cf' := (22, [some (.ref 13), some (.int l1), some (.int l2), some (.int l3), some (.int l4)], [.int l2], i_S X q3.2)) rfl ?_
      by_cases c5 : l2 < (0 : Int32)
      · replace h := (if_pos c5).symm.trans h
        refine i_rbT (c := l2 < (0 : Int32)) (t := 52) (n := 25) rfl c5 ?_
        refine i_rs 1 (cf' := (53, [some (.ref 13), some (.int l1), some (.int l2), some (.int l3), some (.int l4)], [.int (-1 : Int32)], i_S X q3.2)) rfl ?_
        obtain rfl := Option.some.inj h
        exact i_rret rfl rfl
      · replace h := (if_neg c5).symm.trans h
        refine i_rbF (c := l2 < (0 : Int32)) (t := 52) (n := 25) rfl c5 ?_
        refine i_rs 2 (cf' := (28, [some (.ref 13), some (.int l1), some (.int l2), some (.int l3), some (.int l4)], [.int (10 : Int32), .int l2], i_S X q3.2)) rfl ?_
        by_cases c6 : l2 < (10 : Int32)
        · replace h := (if_pos c6).symm.trans h
          refine i_rbT (c := l2 < (10 : Int32)) (t := 31) (n := 52) rfl c6 ?_
          refine i_rs 1 (cf' := (32, [some (.ref 13), some (.int l1), some (.int l2), some (.int l3), some (.int l4)], [.int l3], i_S X q3.2)) rfl ?_
          by_cases c7 : l3 < (0 : Int32)
          · replace h := (if_pos c7).symm.trans h
            refine i_rbT (c := l3 < (0 : Int32)) (t := 52) (n := 35) rfl c7 ?_
            refine i_rs 1 (cf' := (53, [some (.ref 13), some (.int l1), some (.int l2), some (.int l3), some (.int l4)], [.int (-1 : Int32)], i_S X q3.2)) rfl ?_
            obtain rfl := Option.some.inj h
            exact i_rret rfl rfl
          · replace h := (if_neg c7).symm.trans h
            refine i_rbF (c := l3 < (0 : Int32)) (t := 52) (n := 35) rfl c7 ?_
            refine i_rs 2 (cf' := (38, [some (.ref 13), some (.int l1), some (.int l2), some (.int l3), some (.int l4)], [.int (9 : Int32), .int l3], i_S X q3.2)) rfl ?_
            by_cases c8 : (9 : Int32) < l3
            · replace h := (if_pos c8).symm.trans h
              refine i_rbT (c := (9 : Int32) < l3) (t := 52) (n := 41) rfl c8 ?_
              refine i_rs 1 (cf' := (53, [some (.ref 13), some (.int l1), some (.int l2), some (.int l3), some (.int l4)], [.int (-1 : Int32)], i_S X q3.2)) rfl ?_
              obtain rfl := Option.some.inj h
              exact i_rret rfl rfl
            · replace h := (if_neg c8).symm.trans h
              refine i_rbF (c := (9 : Int32) < l3) (t := 52) (n := 41) rfl c8 ?_
              refine i_rs 1 (cf' := (43, [some (.ref 13), some (.int l1), some (.int l2), some (.int l3), some (.int l4)], [.int l4], i_S X q3.2)) rfl ?_
              by_cases c9 : l4 < (0 : Int32)
              · replace h := (if_pos c9).symm.trans h
                refine i_rbT (c := l4 < (0 : Int32)) (t := 52) (n := 46) rfl c9 ?_
                refine i_rs 1 (cf' := (53, [some (.ref 13), some (.int l1), some (.int l2), some (.int l3), some (.int l4)], [.int (-1 : Int32)], i_S X q3.2)) rfl ?_
                obtain rfl := Option.some.inj h
                exact i_rret rfl rfl
              · replace h := (if_neg c9).symm.trans h
                refine i_rbF (c := l4 < (0 : Int32)) (t := 52) (n := 46) rfl c9 ?_
                refine i_rs 2 (cf' := (49, [some (.ref 13), some (.int l1), some (.int l2), some (.int l3), some (.int l4)], [.int (1 : Int32), .int l4], i_S X q3.2)) rfl ?_
                by_cases c10 : (1 : Int32) < l4
                · replace h := (if_pos c10).symm.trans h
                  refine i_rbT (c := (1 : Int32) < l4) (t := 52) (n := 54) rfl c10 ?_
                  refine i_rs 1 (cf' := (53, [some (.ref 13), some (.int l1), some (.int l2), some (.int l3), some (.int l4)], [.int (-1 : Int32)], i_S X q3.2)) rfl ?_
                  obtain rfl := Option.some.inj h
                  exact i_rret rfl rfl
                · replace h := (if_neg c10).symm.trans h
                  refine i_rbF (c := (1 : Int32) < l4) (t := 52) (n := 54) rfl c10 ?_
                  refine i_rs 3 (cf' := (60, [some (.ref 13), some (.int l1), some (.int l2), some (.int l3), some (.int l4)], [.int (6 : Int32), .int (q3.2.1 13 6)], i_S X q3.2)) rfl ?_
                  by_cases c11 : (q3.2.1 13 6) < (6 : Int32)
                  · replace h := (if_pos c11).symm.trans h
                    refine i_rbT (c := (q3.2.1 13 6) < (6 : Int32)) (t := 66) (n := 63) rfl c11 ?_
                    refine i_rs 5 (cf' := (75, [some (.ref 13), some (.int l1), some (.int l2), some (.int l3), some (.int l4)], [.int l1, .int (q3.2.1 13 6), .ref 14], i_S X q3.2)) rfl ?_
                    obtain ⟨g12, h⟩ := i_gE h
                    refine i_riast (n := 6) (cf' := (76, [some (.ref 13), some (.int l1), some (.int l2), some (.int l3), some (.int l4)], [], i_S X (i_wI q3.2 14 (Int32.toNatClampNeg (q3.2.1 13 6)) l1))) rfl rfl (Or.inl rfl) g12 rfl ?_
                    refine i_rs 5 (cf' := (85, [some (.ref 13), some (.int l1), some (.int l2), some (.int l3), some (.int l4)], [.int l2, .int (q3.2.1 13 6), .ref 15], i_S X (i_wI q3.2 14 (Int32.toNatClampNeg (q3.2.1 13 6)) l1))) rfl ?_
                    refine i_riast (n := 6) (cf' := (86, [some (.ref 13), some (.int l1), some (.int l2), some (.int l3), some (.int l4)], [], i_S X (i_wI (i_wI q3.2 14 (Int32.toNatClampNeg (q3.2.1 13 6)) l1) 15 (Int32.toNatClampNeg (q3.2.1 13 6)) l2))) rfl rfl (Or.inl rfl) g12 rfl ?_
                    refine i_rs 5 (cf' := (95, [some (.ref 13), some (.int l1), some (.int l2), some (.int l3), some (.int l4)], [.int l3, .int (q3.2.1 13 6), .ref 16], i_S X (i_wI (i_wI q3.2 14 (Int32.toNatClampNeg (q3.2.1 13 6)) l1) 15 (Int32.toNatClampNeg (q3.2.1 13 6)) l2))) rfl ?_
                    refine i_riast (n := 6) (cf' := (96, [some (.ref 13), some (.int l1), some (.int l2), some (.int l3), some (.int l4)], [], i_S X (i_wI (i_wI (i_wI q3.2 14 (Int32.toNatClampNeg (q3.2.1 13 6)) l1) 15 (Int32.toNatClampNeg (q3.2.1 13 6)) l2) 16 (Int32.toNatClampNeg (q3.2.1 13 6)) l3))) rfl rfl (Or.inl rfl) g12 rfl ?_
                    refine i_rs 5 (cf' := (106, [some (.ref 13), some (.int l1), some (.int l2), some (.int l3), some (.int l4)], [.int l4, .int (q3.2.1 13 6), .ref 17], i_S X (i_wI (i_wI (i_wI q3.2 14 (Int32.toNatClampNeg (q3.2.1 13 6)) l1) 15 (Int32.toNatClampNeg (q3.2.1 13 6)) l2) 16 (Int32.toNatClampNeg (q3.2.1 13 6)) l3))) rfl ?_
                    refine i_riast (n := 6) (cf' := (107, [some (.ref 13), some (.int l1), some (.int l2), some (.int l3), some (.int l4)], [], i_S X (i_wI (i_wI (i_wI (i_wI q3.2 14 (Int32.toNatClampNeg (q3.2.1 13 6)) l1) 15 (Int32.toNatClampNeg (q3.2.1 13 6)) l2) 16 (Int32.toNatClampNeg (q3.2.1 13 6)) l3) 17 (Int32.toNatClampNeg (q3.2.1 13 6)) l4))) rfl rfl (Or.inl rfl) g12 rfl ?_
                    refine i_rs 10 (cf' := (123, [some (.ref 13), some (.int l1), some (.int l2), some (.int l3), some (.int l4)], [.int (((q3.2.1 13 6) + (1 : Int32)) - (1 : Int32))], i_S X (i_wI (i_wI (i_wI (i_wI (i_wI q3.2 14 (Int32.toNatClampNeg (q3.2.1 13 6)) l1) 15 (Int32.toNatClampNeg (q3.2.1 13 6)) l2) 16 (Int32.toNatClampNeg (q3.2.1 13 6)) l3) 17 (Int32.toNatClampNeg (q3.2.1 13 6)) l4) 13 6 ((q3.2.1 13 6) + (1 : Int32))))) rfl ?_
                    obtain rfl := Option.some.inj h
                    exact i_rret rfl rfl
                  · replace h := (if_neg c11).symm.trans h
                    refine i_rbF (c := (q3.2.1 13 6) < (6 : Int32)) (t := 66) (n := 63) rfl c11 ?_
                    refine i_rs 1 (cf' := (65, [some (.ref 13), some (.int l1), some (.int l2), some (.int l3), some (.int l4)], [.int (-3 : Int32)], i_S X q3.2)) rfl ?_
                    obtain rfl := Option.some.inj h
                    exact i_rret rfl rfl
        · replace h := (if_neg c6).symm.trans h
          refine i_rbF (c := l2 < (10 : Int32)) (t := 31) (n := 52) rfl c6 ?_
          refine i_rs 1 (cf' := (53, [some (.ref 13), some (.int l1), some (.int l2), some (.int l3), some (.int l4)], [.int (-1 : Int32)], i_S X q3.2)) rfl ?_
          obtain rfl := Option.some.inj h
          exact i_rret rfl rfl
    · replace h := (if_neg c4).symm.trans h
      refine i_rbF (c := q3.1 = (-2 : Int32)) (t := 21) (n := 52) rfl c4 ?_
      refine i_rs 1 (cf' := (53, [some (.ref 13), some (.int l1), some (.int l2), some (.int l3), some (.int l4)], [.int (-1 : Int32)], i_S X q3.2)) rfl ?_
      obtain rfl := Option.some.inj h
      exact i_rret rfl rfl
def b_bell (l1 : Int32) (l2 : Int32) (M : I_M) : Option (Int32 × I_M) :=
  (if l2 < (0 : Int32) then
      some ((-1 : Int32), M)
    else
      (if l2 < (1000 : Int32) then
        Option.bind (b_Buried_bury l1 (l2 / (100 : Int32)) (i_rem (l2 / (10 : Int32)) (10 : Int32)) (i_rem l2 (10 : Int32)) M) (fun q3 => some (q3.1, q3.2))
      else
        some ((-1 : Int32), M)))
theorem ok_b_bell {X : Nat × (Nat → Int32)} {d : Nat} {l1 : Int32} {l2 : Int32} {M : I_M} {r : (Int32 × I_M)} (hd : 4 ≤ d) (h : b_bell l1 l2 M = some r) : I_Ex d 18 [.ref 0, .int l1, .int l2] (i_S X M) (some (.int r.1)) (i_S X r.2) := by
  obtain ⟨d, rfl⟩ : ∃ d1, d = d1 + 1 := ⟨d - 1, by omega⟩
  unfold b_bell at h
  refine i_ex (e := i_r18) (lv := [some (.ref 0), some (.int l1), some (.int l2)]) rfl (Nat.le_of_ble_eq_true rfl) rfl ?_
  show I_RnE (I_Ex d) i_c18 (0, [some (.ref 0), some (.int l1), some (.int l2)], [], i_S X M) _ _
  refine i_rs 1 (cf' := (1, [some (.ref 0), some (.int l1), some (.int l2)], [.int l2], i_S X M)) rfl ?_
  by_cases c1 : l2 < (0 : Int32)
  · replace h := (if_pos c1).symm.trans h
    refine i_rbT (c := l2 < (0 : Int32)) (t := 11) (n := 4) rfl c1 ?_
    refine i_rs 1 (cf' := (12, [some (.ref 0), some (.int l1), some (.int l2)], [.int (-1 : Int32)], i_S X M)) rfl ?_
    obtain rfl := Option.some.inj h
    exact i_rret rfl rfl
  · replace h := (if_neg c1).symm.trans h
    refine i_rbF (c := l2 < (0 : Int32)) (t := 11) (n := 4) rfl c1 ?_
    refine i_rs 2 (cf' := (8, [some (.ref 0), some (.int l1), some (.int l2)], [.int (1000 : Int32), .int l2], i_S X M)) rfl ?_
    by_cases c2 : l2 < (1000 : Int32)
    · replace h := (if_pos c2).symm.trans h
      refine i_rbT (c := l2 < (1000 : Int32)) (t := 13) (n := 11) rfl c2 ?_
      refine i_rs 5 (cf' := (21, [some (.ref 0), some (.int l1), some (.int l2)], [.int (100 : Int32), .int l2, .int l1, .ref 13], i_S X M)) rfl ?_
      refine i_rdiv (cf' := (22, [some (.ref 0), some (.int l1), some (.int l2)], [.int (l2 / (100 : Int32)), .int l1, .ref 13], i_S X M)) rfl (by decide) rfl ?_
      refine i_rs 2 (cf' := (25, [some (.ref 0), some (.int l1), some (.int l2)], [.int (10 : Int32), .int l2, .int (l2 / (100 : Int32)), .int l1, .ref 13], i_S X M)) rfl ?_
      refine i_rdiv (cf' := (26, [some (.ref 0), some (.int l1), some (.int l2)], [.int (l2 / (10 : Int32)), .int (l2 / (100 : Int32)), .int l1, .ref 13], i_S X M)) rfl (by decide) rfl ?_
      refine i_rs 1 (cf' := (28, [some (.ref 0), some (.int l1), some (.int l2)], [.int (10 : Int32), .int (l2 / (10 : Int32)), .int (l2 / (100 : Int32)), .int l1, .ref 13], i_S X M)) rfl ?_
      refine i_rrem (cf' := (29, [some (.ref 0), some (.int l1), some (.int l2)], [.int (i_rem (l2 / (10 : Int32)) (10 : Int32)), .int (l2 / (100 : Int32)), .int l1, .ref 13], i_S X M)) rfl (by decide) rfl ?_
      refine i_rs 2 (cf' := (32, [some (.ref 0), some (.int l1), some (.int l2)], [.int (10 : Int32), .int l2, .int (i_rem (l2 / (10 : Int32)) (10 : Int32)), .int (l2 / (100 : Int32)), .int l1, .ref 13], i_S X M)) rfl ?_
      refine i_rrem (cf' := (33, [some (.ref 0), some (.int l1), some (.int l2)], [.int (i_rem l2 (10 : Int32)), .int (i_rem (l2 / (10 : Int32)) (10 : Int32)), .int (l2 / (100 : Int32)), .int l1, .ref 13], i_S X M)) rfl (by decide) rfl ?_
      obtain ⟨q3, hq3, h⟩ := i_bdE h
      refine i_rcall (k := 19) (as := [.ref 13, .int l1, .int (l2 / (100 : Int32)), .int (i_rem (l2 / (10 : Int32)) (10 : Int32)), .int (i_rem l2 (10 : Int32))]) (cf1 := (36, [some (.ref 0), some (.int l1), some (.int l2)], [], i_S X M)) (cf' := (36, [some (.ref 0), some (.int l1), some (.int l2)], [.int q3.1], i_S X q3.2)) rfl (ok_b_Buried_bury (by omega) hq3) rfl ?_
      obtain rfl := Option.some.inj h
      exact i_rret rfl rfl
    · replace h := (if_neg c2).symm.trans h
      refine i_rbF (c := l2 < (1000 : Int32)) (t := 13) (n := 11) rfl c2 ?_
      refine i_rs 1 (cf' := (12, [some (.ref 0), some (.int l1), some (.int l2)], [.int (-1 : Int32)], i_S X M)) rfl ?_
      obtain rfl := Option.some.inj h
      exact i_rret rfl rfl
def r_cells (M : I_M) : Option (Int32 × I_M) :=
  some (((M.1 50 6) * (M.1 50 7)), M)
theorem ok_r_cells {X : Nat × (Nat → Int32)} {d : Nat} {M : I_M} {r : (Int32 × I_M)} (hd : 1 ≤ d) (h : r_cells M = some r) : I_Ex d 178 [.ref 50] (i_S X M) (some (.int r.1)) (i_S X r.2) := by
  obtain ⟨d, rfl⟩ : ∃ d1, d = d1 + 1 := ⟨d - 1, by omega⟩
  unfold r_cells at h
  refine i_ex (e := i_r178) (lv := [some (.ref 50)]) rfl (Nat.le_of_ble_eq_true rfl) rfl ?_
  show I_RnE (I_Ex d) i_c178 (0, [some (.ref 50)], [], i_S X M) _ _
  refine i_rs 5 (cf' := (9, [some (.ref 50)], [.int ((M.1 50 6) * (M.1 50 7))], i_S X M)) rfl ?_
  obtain rfl := Option.some.inj h
  exact i_rret rfl rfl
def r_isBare_L2 (l1 : Int64) (k30 : I_M → Option (Int32 × I_M)) : Nat → Int32 → I_M → Option (Int32 × I_M)
  | 0, _, _ => none
  | n + 1, l3, M =>
    (if l3 < (M.1 50 8) then
        i_g l3 6 ((if (lg_cmp (Int32.toInt64 (M.1 55 (Int32.toNatClampNeg l3))) l1) = (0 : Int32) then
          some ((0 : Int32), M)
        else
          (r_isBare_L2 l1 k30 n) (l3 + (1 : Int32)) M))
      else
        k30  M)
theorem ok_r_isBare_L2 {X : Nat × (Nat → Int32)} {d : Nat} {l1 : Int64} {k30 : I_M → Option (Int32 × I_M)} (hd : 2 ≤ d + 1) (hk30 : ∀ (M : I_M) (r : (Int32 × I_M)), k30 M = some r → I_RnE (I_Ex d) i_c177 (30, [some (.ref 50), some (.long l1), none, none], [], i_S X M) (some (.int r.1)) (i_S X r.2)) : ∀ (n : Nat) (l3 : Int32) (M : I_M) (r : (Int32 × I_M)), r_isBare_L2 l1 k30 n l3 M = some r → I_RnE (I_Ex d) i_c177 (2, [some (.ref 50), some (.long l1), none, some (.int l3)], [], i_S X M) (some (.int r.1)) (i_S X r.2) := by
  intro n
  induction n with
  | zero => intro _ M r h; cases h
  | succ n hself =>
    intro l3 M r h
    rw [r_isBare_L2] at h
    refine i_rs 3 (cf' := (7, [some (.ref 50), some (.long l1), none, some (.int l3)], [.int (M.1 50 8), .int l3], i_S X M)) rfl ?_
    by_cases c1 : l3 < (M.1 50 8)
    · replace h := (if_pos c1).symm.trans h
      refine i_rbT (c := l3 < (M.1 50 8)) (t := 10) (n := 30) rfl c1 ?_
      refine i_rs 3 (cf' := (15, [some (.ref 50), some (.long l1), none, some (.int l3)], [.int l3, .ref 55], i_S X M)) rfl ?_
      obtain ⟨g2, h⟩ := i_gE h
      refine i_riald (n := 6) (cf' := (16, [some (.ref 50), some (.long l1), none, some (.int l3)], [.int (M.1 55 (Int32.toNatClampNeg l3))], i_S X M)) rfl rfl (by decide) g2 rfl ?_
      refine i_rs 3 (cf' := (19, [some (.ref 50), some (.long l1), none, some (.int l3)], [.int (lg_cmp (Int32.toInt64 (M.1 55 (Int32.toNatClampNeg l3))) l1)], i_S X M)) rfl ?_
      by_cases c3 : (lg_cmp (Int32.toInt64 (M.1 55 (Int32.toNatClampNeg l3))) l1) = (0 : Int32)
      · replace h := (if_pos c3).symm.trans h
        refine i_rbT (c := (lg_cmp (Int32.toInt64 (M.1 55 (Int32.toNatClampNeg l3))) l1) = (0 : Int32)) (t := 22) (n := 24) rfl c3 ?_
        refine i_rs 1 (cf' := (23, [some (.ref 50), some (.long l1), none, some (.int l3)], [.int (0 : Int32)], i_S X M)) rfl ?_
        obtain rfl := Option.some.inj h
        exact i_rretZ rfl (Or.inl rfl) rfl
      · replace h := (if_neg c3).symm.trans h
        refine i_rbF (c := (lg_cmp (Int32.toInt64 (M.1 55 (Int32.toNatClampNeg l3))) l1) = (0 : Int32)) (t := 22) (n := 24) rfl c3 ?_
        refine i_rs 2 (cf' := (2, [some (.ref 50), some (.long l1), none, some (.int (l3 + (1 : Int32)))], [], i_S X M)) rfl ?_
        refine i_fg (lv' := [some (.ref 50), some (.long l1), none, some (.int (l3 + (1 : Int32)))]) (And.intro rfl (And.intro rfl (And.intro rfl True.intro))) ?_
        exact hself (l3 + (1 : Int32)) M _ h
    · replace h := (if_neg c1).symm.trans h
      refine i_rbF (c := l3 < (M.1 50 8)) (t := 10) (n := 30) rfl c1 ?_
      refine i_fg (lv' := [some (.ref 50), some (.long l1), none, none]) (And.intro rfl (And.intro rfl True.intro)) ?_
      exact hk30  M _ h
def r_isBare (l1 : Int64) (M : I_M) : Option (Int32 × I_M) :=
  r_isBare_L2 l1 (fun M4 =>
        Option.bind (r_cells M4) (fun q5 => Option.bind (r_within l1 (0 : Int64) (Int32.toInt64 (q5.1 - (1 : Int32))) q5.2) (fun q6 => i_zo q6.1 (some (q6.1, q6.2))))) i_F (0 : Int32) M
theorem ok_r_isBare {X : Nat × (Nat → Int32)} {d : Nat} {l1 : Int64} {M : I_M} {r : (Int32 × I_M)} (hd : 2 ≤ d) (h : r_isBare l1 M = some r) : I_Ex d 177 [.ref 50, .long l1] (i_S X M) (some (.int r.1)) (i_S X r.2) := by
  obtain ⟨d, rfl⟩ : ∃ d1, d = d1 + 1 := ⟨d - 1, by omega⟩
  unfold r_isBare at h
  refine i_ex (e := i_r177) (lv := [some (.ref 50), some (.long l1), none, none]) rfl (Nat.le_of_ble_eq_true rfl) rfl ?_
  show I_RnE (I_Ex d) i_c177 (0, [some (.ref 50), some (.long l1), none, none], [], i_S X M) _ _
  refine i_rs 2 (cf' := (2, [some (.ref 50), some (.long l1), none, some (.int (0 : Int32))], [], i_S X M)) rfl ?_
  refine i_fg (lv' := [some (.ref 50), some (.long l1), none, some (.int (0 : Int32))]) (And.intro rfl (And.intro rfl (And.intro rfl True.intro))) ?_
  refine ok_r_isBare_L2 (by omega) (fun M4 r h => ?_) i_F (0 : Int32) M _ h
  refine i_rs 3 (cf' := (33, [some (.ref 50), some (.long l1), none, none], [.ref 50, .long (0 : Int64), .long l1], i_S X M4)) rfl ?_
  obtain ⟨q5, hq5, h⟩ := i_bdE h
  refine i_rcall (k := 178) (as := [.ref 50]) (cf1 := (36, [some (.ref 50), some (.long l1), none, none], [.long (0 : Int64), .long l1], i_S X M4)) (cf' := (36, [some (.ref 50), some (.long l1), none, none], [.int q5.1, .long (0 : Int64), .long l1], i_S X q5.2)) rfl (ok_r_cells (by omega) hq5) rfl ?_
  refine i_rs 3 (cf' := (39, [some (.ref 50), some (.long l1), none, none], [.long (Int32.toInt64 (q5.1 - (1 : Int32))), .long (0 : Int64), .long l1], i_S X q5.2)) rfl ?_
  obtain ⟨q6, hq6, h⟩ := i_bdE h
  refine i_rcall (k := 175) (as := [.long l1, .long (0 : Int64), .long (Int32.toInt64 (q5.1 - (1 : Int32)))]) (cf1 := (42, [some (.ref 50), some (.long l1), none, none], [], i_S X q5.2)) (cf' := (42, [some (.ref 50), some (.long l1), none, none], [.int q6.1], i_S X q6.2)) rfl (ok_r_within (by omega) hq6) rfl ?_
  obtain ⟨z7, h⟩ := i_zoE h
  obtain rfl := Option.some.inj h
  exact i_rretZ rfl z7 rfl
def r_adds (l1 : Int32) (l2 : Int32) (l3 : Int32) (l4 : Int32) (M : I_M) : Option I_M :=
  i_g (M.1 50 8) 6 (i_g ((50 : Int32) + (M.1 50 8)) 60 (some (i_wI (i_wI (i_wI (i_wI (i_wI M 55 (Int32.toNatClampNeg (M.1 50 8)) l1) 56 (Int32.toNatClampNeg (M.1 50 8)) l2) 51 (Int32.toNatClampNeg ((50 : Int32) + (M.1 50 8))) l3) 57 (Int32.toNatClampNeg (M.1 50 8)) l4) 50 8 ((M.1 50 8) + (1 : Int32)))))
theorem ok_r_adds {X : Nat × (Nat → Int32)} {d : Nat} {l1 : Int32} {l2 : Int32} {l3 : Int32} {l4 : Int32} {M : I_M} {r : I_M} (hd : 1 ≤ d) (h : r_adds l1 l2 l3 l4 M = some r) : I_Ex d 179 [.ref 50, .int l1, .int l2, .int l3, .int l4] (i_S X M) none (i_S X r) := by
  obtain ⟨d, rfl⟩ : ∃ d1, d = d1 + 1 := ⟨d - 1, by omega⟩
  unfold r_adds at h
  refine i_ex (e := i_r179) (lv := [some (.ref 50), some (.int l1), some (.int l2), some (.int l3), some (.int l4)]) rfl (Nat.le_of_ble_eq_true rfl) rfl ?_
  show I_RnE (I_Ex d) i_c179 (0, [some (.ref 50), some (.int l1), some (.int l2), some (.int l3), some (.int l4)], [], i_S X M) _ _
  refine i_rs 5 (cf' := (9, [some (.ref 50), some (.int l1), some (.int l2), some (.int l3), some (.int l4)], [.int l1, .int (M.1 50 8), .ref 55], i_S X M)) rfl ?_
  obtain ⟨g1, h⟩ := i_gE h
  refine i_riast (n := 6) (cf' := (10, [some (.ref 50), some (.int l1), some (.int l2), some (.int l3), some (.int l4)], [], i_S X (i_wI M 55 (Int32.toNatClampNeg (M.1 50 8)) l1))) rfl rfl (Or.inl rfl) g1 rfl ?_
  refine i_rs 5 (cf' := (19, [some (.ref 50), some (.int l1), some (.int l2), some (.int l3), some (.int l4)], [.int l2, .int (M.1 50 8), .ref 56], i_S X (i_wI M 55 (Int32.toNatClampNeg (M.1 50 8)) l1))) rfl ?_
  refine i_riast (n := 6) (cf' := (20, [some (.ref 50), some (.int l1), some (.int l2), some (.int l3), some (.int l4)], [], i_S X (i_wI (i_wI M 55 (Int32.toNatClampNeg (M.1 50 8)) l1) 56 (Int32.toNatClampNeg (M.1 50 8)) l2))) rfl rfl (Or.inl rfl) g1 rfl ?_
  refine i_rs 7 (cf' := (32, [some (.ref 50), some (.int l1), some (.int l2), some (.int l3), some (.int l4)], [.int l3, .int ((50 : Int32) + (M.1 50 8)), .ref 51], i_S X (i_wI (i_wI M 55 (Int32.toNatClampNeg (M.1 50 8)) l1) 56 (Int32.toNatClampNeg (M.1 50 8)) l2))) rfl ?_
  obtain ⟨g2, h⟩ := i_gE h
  refine i_riast (n := 60) (cf' := (33, [some (.ref 50), some (.int l1), some (.int l2), some (.int l3), some (.int l4)], [], i_S X (i_wI (i_wI (i_wI M 55 (Int32.toNatClampNeg (M.1 50 8)) l1) 56 (Int32.toNatClampNeg (M.1 50 8)) l2) 51 (Int32.toNatClampNeg ((50 : Int32) + (M.1 50 8))) l3))) rfl rfl (Or.inl rfl) g2 rfl ?_
  refine i_rs 5 (cf' := (43, [some (.ref 50), some (.int l1), some (.int l2), some (.int l3), some (.int l4)], [.int l4, .int (M.1 50 8), .ref 57], i_S X (i_wI (i_wI (i_wI M 55 (Int32.toNatClampNeg (M.1 50 8)) l1) 56 (Int32.toNatClampNeg (M.1 50 8)) l2) 51 (Int32.toNatClampNeg ((50 : Int32) + (M.1 50 8))) l3))) rfl ?_
  refine i_riast (n := 6) (cf' := (44, [some (.ref 50), some (.int l1), some (.int l2), some (.int l3), some (.int l4)], [], i_S X (i_wI (i_wI (i_wI (i_wI M 55 (Int32.toNatClampNeg (M.1 50 8)) l1) 56 (Int32.toNatClampNeg (M.1 50 8)) l2) 51 (Int32.toNatClampNeg ((50 : Int32) + (M.1 50 8))) l3) 57 (Int32.toNatClampNeg (M.1 50 8)) l4))) rfl rfl (Or.inl rfl) g1 rfl ?_
  refine i_rs 6 (cf' := (54, [some (.ref 50), some (.int l1), some (.int l2), some (.int l3), some (.int l4)], [], i_S X (i_wI (i_wI (i_wI (i_wI (i_wI M 55 (Int32.toNatClampNeg (M.1 50 8)) l1) 56 (Int32.toNatClampNeg (M.1 50 8)) l2) 51 (Int32.toNatClampNeg ((50 : Int32) + (M.1 50 8))) l3) 57 (Int32.toNatClampNeg (M.1 50 8)) l4) 50 8 ((M.1 50 8) + (1 : Int32))))) rfl ?_
  obtain rfl := Option.some.inj h
  exact i_rret rfl rfl
def r_bell (l1 : Int32) (l2 : Int32) (M : I_M) : Option (Int32 × I_M) :=
  (if l2 < (0 : Int32) then
      some ((-1 : Int32), M)
    else
      (if (9 : Int32) < (l2 / (100 : Int32)) then
        some ((-1 : Int32), M)
      else
        (if (1 : Int32) < (i_rem l2 (10 : Int32)) then
          some ((-1 : Int32), M)
        else
          Option.bind (r_isBare (Int32.toInt64 l1) M) (fun q4 => (if q4.1 = (0 : Int32) then
            some ((-1 : Int32), q4.2)
          else
            (if (q4.2.1 50 8) = (6 : Int32) then
              some ((-3 : Int32), q4.2)
            else
              Option.bind (r_adds l1 (l2 / (100 : Int32)) (i_rem (l2 / (10 : Int32)) (10 : Int32)) (i_rem l2 (10 : Int32)) q4.2) (fun q7 => some (((q7.1 50 8) - (1 : Int32)), q7))))))))
theorem ok_r_bell {X : Nat × (Nat → Int32)} {d : Nat} {l1 : Int32} {l2 : Int32} {M : I_M} {r : (Int32 × I_M)} (hd : 3 ≤ d) (h : r_bell l1 l2 M = some r) : I_Ex d 176 [.ref 50, .int l1, .int l2] (i_S X M) (some (.int r.1)) (i_S X r.2) := by
  obtain ⟨d, rfl⟩ : ∃ d1, d = d1 + 1 := ⟨d - 1, by omega⟩
  unfold r_bell at h
  refine i_ex (e := i_r176) (lv := [some (.ref 50), some (.int l1), some (.int l2)]) rfl (Nat.le_of_ble_eq_true rfl) rfl ?_
  show I_RnE (I_Ex d) i_c176 (0, [some (.ref 50), some (.int l1), some (.int l2)], [], i_S X M) _ _
  refine i_rs 1 (cf' := (1, [some (.ref 50), some (.int l1), some (.int l2)], [.int l2], i_S X M)) rfl ?_
  by_cases c1 : l2 < (0 : Int32)
  · replace h := (if_pos c1).symm.trans h
    refine i_rbT (c := l2 < (0 : Int32)) (t := 30) (n := 4) rfl c1 ?_
    refine i_rs 1 (cf' := (31, [some (.ref 50), some (.int l1), some (.int l2)], [.int (-1 : Int32)], i_S X M)) rfl ?_
    obtain rfl := Option.some.inj h
    exact i_rret rfl rfl
  · replace h := (if_neg c1).symm.trans h
    refine i_rbF (c := l2 < (0 : Int32)) (t := 30) (n := 4) rfl c1 ?_
    refine i_rs 2 (cf' := (7, [some (.ref 50), some (.int l1), some (.int l2)], [.int (100 : Int32), .int l2], i_S X M)) rfl ?_
    refine i_rdiv (cf' := (8, [some (.ref 50), some (.int l1), some (.int l2)], [.int (l2 / (100 : Int32))], i_S X M)) rfl (by decide) rfl ?_
    refine i_rs 1 (cf' := (10, [some (.ref 50), some (.int l1), some (.int l2)], [.int (9 : Int32), .int (l2 / (100 : Int32))], i_S X M)) rfl ?_
    by_cases c2 : (9 : Int32) < (l2 / (100 : Int32))
    · replace h := (if_pos c2).symm.trans h
      refine i_rbT (c := (9 : Int32) < (l2 / (100 : Int32))) (t := 30) (n := 13) rfl c2 ?_
      refine i_rs 1 (cf' := (31, [some (.ref 50), some (.int l1), some (.int l2)], [.int (-1 : Int32)], i_S X M)) rfl ?_
      obtain rfl := Option.some.inj h
      exact i_rret rfl rfl
    · replace h := (if_neg c2).symm.trans h
      refine i_rbF (c := (9 : Int32) < (l2 / (100 : Int32))) (t := 30) (n := 13) rfl c2 ?_
      refine i_rs 2 (cf' := (16, [some (.ref 50), some (.int l1), some (.int l2)], [.int (10 : Int32), .int l2], i_S X M)) rfl ?_
      refine i_rrem (cf' := (17, [some (.ref 50), some (.int l1), some (.int l2)], [.int (i_rem l2 (10 : Int32))], i_S X M)) rfl (by decide) rfl ?_
      refine i_rs 1 (cf' := (18, [some (.ref 50), some (.int l1), some (.int l2)], [.int (1 : Int32), .int (i_rem l2 (10 : Int32))], i_S X M)) rfl ?_
      by_cases c3 : (1 : Int32) < (i_rem l2 (10 : Int32))
      · replace h := (if_pos c3).symm.trans h
        refine i_rbT (c := (1 : Int32) < (i_rem l2 (10 : Int32))) (t := 30) (n := 21) rfl c3 ?_
        refine i_rs 1 (cf' := (31, [some (.ref 50), some (.int l1), some (.int l2)], [.int (-1 : Int32)], i_S X M)) rfl ?_
        obtain rfl := Option.some.inj h
        exact i_rret rfl rfl
      · replace h := (if_neg c3).symm.trans h
        refine i_rbF (c := (1 : Int32) < (i_rem l2 (10 : Int32))) (t := 30) (n := 21) rfl c3 ?_
        refine i_rs 3 (cf' := (24, [some (.ref 50), some (.int l1), some (.int l2)], [.long (Int32.toInt64 l1), .ref 50], i_S X M)) rfl ?_
        obtain ⟨q4, hq4, h⟩ := i_bdE h
        refine i_rcall (k := 177) (as := [.ref 50, .long (Int32.toInt64 l1)]) (cf1 := (27, [some (.ref 50), some (.int l1), some (.int l2)], [], i_S X M)) (cf' := (27, [some (.ref 50), some (.int l1), some (.int l2)], [.int q4.1], i_S X q4.2)) rfl (ok_r_isBare (by omega) hq4) rfl ?_
        by_cases c5 : q4.1 = (0 : Int32)
        · replace h := (if_pos c5).symm.trans h
          refine i_rbT (c := q4.1 = (0 : Int32)) (t := 30) (n := 32) rfl c5 ?_
          refine i_rs 1 (cf' := (31, [some (.ref 50), some (.int l1), some (.int l2)], [.int (-1 : Int32)], i_S X q4.2)) rfl ?_
          obtain rfl := Option.some.inj h
          exact i_rret rfl rfl
        · replace h := (if_neg c5).symm.trans h
          refine i_rbF (c := q4.1 = (0 : Int32)) (t := 30) (n := 32) rfl c5 ?_
          refine i_rs 3 (cf' := (38, [some (.ref 50), some (.int l1), some (.int l2)], [.int (6 : Int32), .int (q4.2.1 50 8)], i_S X q4.2)) rfl ?_
          by_cases c6 : (q4.2.1 50 8) = (6 : Int32)
          · replace h := (if_pos c6).symm.trans h
            refine i_rbT (c := (q4.2.1 50 8) = (6 : Int32)) (t := 41) (n := 44) rfl c6 ?_
            refine i_rs 1 (cf' := (43, [some (.ref 50), some (.int l1), some (.int l2)], [.int (-3 : Int32)], i_S X q4.2)) rfl ?_
            obtain rfl := Option.some.inj h
            exact i_rret rfl rfl
          · replace h := (if_neg c6).symm.trans h
            refine i_rbF (c := (q4.2.1 50 8) = (6 : Int32)) (t := 41) (n := 44) rfl c6 ?_
            refine i_rs 4 (cf' := (49, [some (.ref 50), some (.int l1), some (.int l2)], [.int (100 : Int32), .int l2, .int l1, .ref 50], i_S X q4.2)) rfl ?_
            refine i_rdiv (cf' := (50, [some (.ref 50), some (.int l1), some (.int l2)], [.int (l2 / (100 : Int32)), .int l1, .ref 50], i_S X q4.2)) rfl (by decide) rfl ?_
            refine i_rs 2 (cf' := (53, [some (.ref 50), some (.int l1), some (.int l2)], [.int (10 : Int32), .int l2, .int (l2 / (100 : Int32)), .int l1, .ref 50], i_S X q4.2)) rfl ?_
            refine i_rdiv (cf' := (54, [some (.ref 50), some (.int l1), some (.int l2)], [.int (l2 / (10 : Int32)), .int (l2 / (100 : Int32)), .int l1, .ref 50], i_S X q4.2)) rfl (by decide) rfl ?_
            refine i_rs 1 (cf' := (56, [some (.ref 50), some (.int l1), some (.int l2)], [.int (10 : Int32), .int (l2 / (10 : Int32)), .int (l2 / (100 : Int32)), .int l1, .ref 50], i_S X q4.2)) rfl ?_
            refine i_rrem (cf' := (57, [some (.ref 50), some (.int l1), some (.int l2)], [.int (i_rem (l2 / (10 : Int32)) (10 : Int32)), .int (l2 / (100 : Int32)), .int l1, .ref 50], i_S X q4.2)) rfl (by decide) rfl ?_
            refine i_rs 2 (cf' := (60, [some (.ref 50), some (.int l1), some (.int l2)], [.int (10 : Int32), .int l2, .int (i_rem (l2 / (10 : Int32)) (10 : Int32)), .int (l2 / (100 : Int32)), .int l1, .ref 50], i_S X q4.2)) rfl ?_
            refine i_rrem (cf' := (61, [some (.ref 50), some (.int l1), some (.int l2)], [.int (i_rem l2 (10 : Int32)), .int (i_rem (l2 / (10 : Int32)) (10 : Int32)), .int (l2 / (100 : Int32)), .int l1, .ref 50], i_S X q4.2)) rfl (by decide) rfl ?_
            obtain ⟨q7, hq7, h⟩ := i_bdE h
            refine i_rcall (k := 179) (as := [.ref 50, .int l1, .int (l2 / (100 : Int32)), .int (i_rem (l2 / (10 : Int32)) (10 : Int32)), .int (i_rem l2 (10 : Int32))]) (cf1 := (64, [some (.ref 50), some (.int l1), some (.int l2)], [], i_S X q4.2)) (cf' := (64, [some (.ref 50), some (.int l1), some (.int l2)], [], i_S X q7)) rfl (ok_r_adds (by omega) hq7) rfl ?_
            refine i_rs 4 (cf' := (70, [some (.ref 50), some (.int l1), some (.int l2)], [.int ((q7.1 50 8) - (1 : Int32))], i_S X q7)) rfl ?_
            obtain rfl := Option.some.inj h
            exact i_rret rfl rfl
def b_Shelves_isShelf (l1 : Int32) (M : I_M) : Option (Int32 × I_M) :=
  (if l1 < (0 : Int32) then
      some ((0 : Int32), M)
    else
      (if l1 < (6 : Int32) then
        some ((1 : Int32), M)
      else
        some ((0 : Int32), M)))
theorem ok_b_Shelves_isShelf {X : Nat × (Nat → Int32)} {d : Nat} {l1 : Int32} {M : I_M} {r : (Int32 × I_M)} (hd : 1 ≤ d) (h : b_Shelves_isShelf l1 M = some r) : I_Ex d 24 [.ref 41, .int l1] (i_S X M) (some (.int r.1)) (i_S X r.2) := by
  obtain ⟨d, rfl⟩ : ∃ d1, d = d1 + 1 := ⟨d - 1, by omega⟩
  unfold b_Shelves_isShelf at h
  refine i_ex (e := i_r24) (lv := [some (.ref 41), some (.int l1)]) rfl (Nat.le_of_ble_eq_true rfl) rfl ?_
  show I_RnE (I_Ex d) i_c24 (0, [some (.ref 41), some (.int l1)], [], i_S X M) _ _
  refine i_rs 1 (cf' := (1, [some (.ref 41), some (.int l1)], [.int l1], i_S X M)) rfl ?_
  by_cases c1 : l1 < (0 : Int32)
  · replace h := (if_pos c1).symm.trans h
    refine i_rbT (c := l1 < (0 : Int32)) (t := 14) (n := 4) rfl c1 ?_
    refine i_rs 1 (cf' := (15, [some (.ref 41), some (.int l1)], [.int (0 : Int32)], i_S X M)) rfl ?_
    obtain rfl := Option.some.inj h
    exact i_rretZ rfl (Or.inl rfl) rfl
  · replace h := (if_neg c1).symm.trans h
    refine i_rbF (c := l1 < (0 : Int32)) (t := 14) (n := 4) rfl c1 ?_
    refine i_rs 2 (cf' := (7, [some (.ref 41), some (.int l1)], [.int (6 : Int32), .int l1], i_S X M)) rfl ?_
    by_cases c2 : l1 < (6 : Int32)
    · replace h := (if_pos c2).symm.trans h
      refine i_rbT (c := l1 < (6 : Int32)) (t := 10) (n := 14) rfl c2 ?_
      refine i_rs 2 (cf' := (15, [some (.ref 41), some (.int l1)], [.int (1 : Int32)], i_S X M)) rfl ?_
      obtain rfl := Option.some.inj h
      exact i_rretZ rfl (Or.inr rfl) rfl
    · replace h := (if_neg c2).symm.trans h
      refine i_rbF (c := l1 < (6 : Int32)) (t := 10) (n := 14) rfl c2 ?_
      refine i_rs 1 (cf' := (15, [some (.ref 41), some (.int l1)], [.int (0 : Int32)], i_S X M)) rfl ?_
      obtain rfl := Option.some.inj h
      exact i_rretZ rfl (Or.inl rfl) rfl
def b_Shelves_hasPlace (l1 : Int32) (l2 : Int32) (M : I_M) : Option (Int32 × I_M) :=
  (if l2 < (0 : Int32) then
      some ((0 : Int32), M)
    else
      i_g l1 6 ((if l2 < (M.1 43 (Int32.toNatClampNeg l1)) then
        some ((1 : Int32), M)
      else
        some ((0 : Int32), M))))
theorem ok_b_Shelves_hasPlace {X : Nat × (Nat → Int32)} {d : Nat} {l1 : Int32} {l2 : Int32} {M : I_M} {r : (Int32 × I_M)} (hd : 1 ≤ d) (h : b_Shelves_hasPlace l1 l2 M = some r) : I_Ex d 26 [.ref 41, .int l1, .int l2] (i_S X M) (some (.int r.1)) (i_S X r.2) := by
  obtain ⟨d, rfl⟩ : ∃ d1, d = d1 + 1 := ⟨d - 1, by omega⟩
  unfold b_Shelves_hasPlace at h
  refine i_ex (e := i_r26) (lv := [some (.ref 41), some (.int l1), some (.int l2)]) rfl (Nat.le_of_ble_eq_true rfl) rfl ?_
  show I_RnE (I_Ex d) i_c26 (0, [some (.ref 41), some (.int l1), some (.int l2)], [], i_S X M) _ _
  refine i_rs 1 (cf' := (1, [some (.ref 41), some (.int l1), some (.int l2)], [.int l2], i_S X M)) rfl ?_
  by_cases c1 : l2 < (0 : Int32)
  · replace h := (if_pos c1).symm.trans h
    refine i_rbT (c := l2 < (0 : Int32)) (t := 18) (n := 4) rfl c1 ?_
    refine i_rs 1 (cf' := (19, [some (.ref 41), some (.int l1), some (.int l2)], [.int (0 : Int32)], i_S X M)) rfl ?_
    obtain rfl := Option.some.inj h
    exact i_rretZ rfl (Or.inl rfl) rfl
  · replace h := (if_neg c1).symm.trans h
    refine i_rbF (c := l2 < (0 : Int32)) (t := 18) (n := 4) rfl c1 ?_
    refine i_rs 4 (cf' := (10, [some (.ref 41), some (.int l1), some (.int l2)], [.int l1, .ref 43, .int l2], i_S X M)) rfl ?_
    obtain ⟨g2, h⟩ := i_gE h
    refine i_riald (n := 6) (cf' := (11, [some (.ref 41), some (.int l1), some (.int l2)], [.int (M.1 43 (Int32.toNatClampNeg l1)), .int l2], i_S X M)) rfl rfl (by decide) g2 rfl ?_
    by_cases c3 : l2 < (M.1 43 (Int32.toNatClampNeg l1))
    · replace h := (if_pos c3).symm.trans h
      refine i_rbT (c := l2 < (M.1 43 (Int32.toNatClampNeg l1))) (t := 14) (n := 18) rfl c3 ?_
      refine i_rs 2 (cf' := (19, [some (.ref 41), some (.int l1), some (.int l2)], [.int (1 : Int32)], i_S X M)) rfl ?_
      obtain rfl := Option.some.inj h
      exact i_rretZ rfl (Or.inr rfl) rfl
    · replace h := (if_neg c3).symm.trans h
      refine i_rbF (c := l2 < (M.1 43 (Int32.toNatClampNeg l1))) (t := 14) (n := 18) rfl c3 ?_
      refine i_rs 1 (cf' := (19, [some (.ref 41), some (.int l1), some (.int l2)], [.int (0 : Int32)], i_S X M)) rfl ?_
      obtain rfl := Option.some.inj h
      exact i_rretZ rfl (Or.inl rfl) rfl
def b_Shelves_get (l1 : Int32) (l2 : Int32) (M : I_M) : Option (Int64 × I_M) :=
  i_g ((l1 * (60 : Int32)) + l2) 360 (some ((M.2 45 (Int32.toNatClampNeg ((l1 * (60 : Int32)) + l2))), M))
theorem ok_b_Shelves_get {X : Nat × (Nat → Int32)} {d : Nat} {l1 : Int32} {l2 : Int32} {M : I_M} {r : (Int64 × I_M)} (hd : 1 ≤ d) (h : b_Shelves_get l1 l2 M = some r) : I_Ex d 27 [.ref 41, .int l1, .int l2] (i_S X M) (some (.long r.1)) (i_S X r.2) := by
  obtain ⟨d, rfl⟩ : ∃ d1, d = d1 + 1 := ⟨d - 1, by omega⟩
  unfold b_Shelves_get at h
  refine i_ex (e := i_r27) (lv := [some (.ref 41), some (.int l1), some (.int l2)]) rfl (Nat.le_of_ble_eq_true rfl) rfl ?_
  show I_RnE (I_Ex d) i_c27 (0, [some (.ref 41), some (.int l1), some (.int l2)], [], i_S X M) _ _
  refine i_rs 7 (cf' := (10, [some (.ref 41), some (.int l1), some (.int l2)], [.int ((l1 * (60 : Int32)) + l2), .ref 45], i_S X M)) rfl ?_
  obtain ⟨g1, h⟩ := i_gE h
  refine i_rlald (n := 360) (cf' := (11, [some (.ref 41), some (.int l1), some (.int l2)], [.long (M.2 45 (Int32.toNatClampNeg ((l1 * (60 : Int32)) + l2)))], i_S X M)) rfl rfl g1 rfl ?_
  obtain rfl := Option.some.inj h
  exact i_rret rfl rfl
def b_comesFrom (l1 : Int32) (l2 : Int32) (l3 : Int32) (M : I_M) : Option (Int32 × I_M) :=
  Option.bind (b_Shelves_hasPlace l1 l2 M) (fun q1 => (if q1.1 = (0 : Int32) then
      some ((0 : Int32), q1.2)
    else
      Option.bind (b_Shelves_hasPlace l1 ((l2 + ((4 : Int32) * l3)) + (3 : Int32)) q1.2) (fun q3 => (if q3.1 = (0 : Int32) then
        some ((0 : Int32), q3.2)
      else
        Option.bind (b_Shelves_get l1 (l2 + ((4 : Int32) * l3)) q3.2) (fun q5 => Option.bind (b_Shelves_get l1 ((l2 + ((4 : Int32) * l3)) + (1 : Int32)) q5.2) (fun q6 => Option.bind (b_Shelves_get l1 ((l2 + ((4 : Int32) * l3)) + (2 : Int32)) q6.2) (fun q7 => Option.bind (b_Shelves_get l1 ((l2 + ((4 : Int32) * l3)) + (3 : Int32)) q7.2) (fun q8 => Option.bind (b_Buried_bury (Int64.toInt32 q5.1) (Int64.toInt32 q6.1) (Int64.toInt32 q7.1) (Int64.toInt32 q8.1) q8.2) (fun q9 => (if q9.1 < (0 : Int32) then
          some ((0 : Int32), q9.2)
        else
          some ((1 : Int32), q9.2)))))))))))
theorem ok_b_comesFrom {X : Nat × (Nat → Int32)} {d : Nat} {l1 : Int32} {l2 : Int32} {l3 : Int32} {M : I_M} {r : (Int32 × I_M)} (hd : 4 ≤ d) (h : b_comesFrom l1 l2 l3 M = some r) : I_Ex d 25 [.ref 0, .int l1, .int l2, .int l3] (i_S X M) (some (.int r.1)) (i_S X r.2) := by
  obtain ⟨d, rfl⟩ : ∃ d1, d = d1 + 1 := ⟨d - 1, by omega⟩
  unfold b_comesFrom at h
  refine i_ex (e := i_r25) (lv := [some (.ref 0), some (.int l1), some (.int l2), some (.int l3), none]) rfl (Nat.le_of_ble_eq_true rfl) rfl ?_
  show I_RnE (I_Ex d) i_c25 (0, [some (.ref 0), some (.int l1), some (.int l2), some (.int l3), none], [], i_S X M) _ _
  refine i_rs 4 (cf' := (6, [some (.ref 0), some (.int l1), some (.int l2), some (.int l3), none], [.int l2, .int l1, .ref 41], i_S X M)) rfl ?_
  obtain ⟨q1, hq1, h⟩ := i_bdE h
  refine i_rcall (k := 26) (as := [.ref 41, .int l1, .int l2]) (cf1 := (9, [some (.ref 0), some (.int l1), some (.int l2), some (.int l3), none], [], i_S X M)) (cf' := (9, [some (.ref 0), some (.int l1), some (.int l2), some (.int l3), none], [.int q1.1], i_S X q1.2)) rfl (ok_b_Shelves_hasPlace (by omega) hq1) rfl ?_
  by_cases c2 : q1.1 = (0 : Int32)
  · replace h := (if_pos c2).symm.trans h
    refine i_rbT (c := q1.1 = (0 : Int32)) (t := 30) (n := 12) rfl c2 ?_
    refine i_rs 1 (cf' := (31, [some (.ref 0), some (.int l1), some (.int l2), some (.int l3), none], [.int (0 : Int32)], i_S X q1.2)) rfl ?_
    obtain rfl := Option.some.inj h
    exact i_rretZ rfl (Or.inl rfl) rfl
  · replace h := (if_neg c2).symm.trans h
    refine i_rbF (c := q1.1 = (0 : Int32)) (t := 30) (n := 12) rfl c2 ?_
    refine i_rs 10 (cf' := (24, [some (.ref 0), some (.int l1), some (.int l2), some (.int l3), none], [.int ((l2 + ((4 : Int32) * l3)) + (3 : Int32)), .int l1, .ref 41], i_S X q1.2)) rfl ?_
    obtain ⟨q3, hq3, h⟩ := i_bdE h
    refine i_rcall (k := 26) (as := [.ref 41, .int l1, .int ((l2 + ((4 : Int32) * l3)) + (3 : Int32))]) (cf1 := (27, [some (.ref 0), some (.int l1), some (.int l2), some (.int l3), none], [], i_S X q1.2)) (cf' := (27, [some (.ref 0), some (.int l1), some (.int l2), some (.int l3), none], [.int q3.1], i_S X q3.2)) rfl (ok_b_Shelves_hasPlace (by omega) hq3) rfl ?_
    by_cases c4 : q3.1 = (0 : Int32)
    · replace h := (if_pos c4).symm.trans h
      refine i_rbT (c := q3.1 = (0 : Int32)) (t := 30) (n := 32) rfl c4 ?_
      refine i_rs 1 (cf' := (31, [some (.ref 0), some (.int l1), some (.int l2), some (.int l3), none], [.int (0 : Int32)], i_S X q3.2)) rfl ?_
      obtain rfl := Option.some.inj h
      exact i_rretZ rfl (Or.inl rfl) rfl
    · replace h := (if_neg c4).symm.trans h
      refine i_rbF (c := q3.1 = (0 : Int32)) (t := 30) (n := 32) rfl c4 ?_
      refine i_rs 12 (cf' := (50, [some (.ref 0), some (.int l1), some (.int l2), some (.int l3), some (.int (l2 + ((4 : Int32) * l3)))], [.int (l2 + ((4 : Int32) * l3)), .int l1, .ref 41, .ref 13], i_S X q3.2)) rfl ?_
      obtain ⟨q5, hq5, h⟩ := i_bdE h
      refine i_rcall (k := 27) (as := [.ref 41, .int l1, .int (l2 + ((4 : Int32) * l3))]) (cf1 := (53, [some (.ref 0), some (.int l1), some (.int l2), some (.int l3), some (.int (l2 + ((4 : Int32) * l3)))], [.ref 13], i_S X q3.2)) (cf' := (53, [some (.ref 0), some (.int l1), some (.int l2), some (.int l3), some (.int (l2 + ((4 : Int32) * l3)))], [.long q5.1, .ref 13], i_S X q5.2)) rfl (ok_b_Shelves_get (by omega) hq5) rfl ?_
      refine i_rs 7 (cf' := (63, [some (.ref 0), some (.int l1), some (.int l2), some (.int l3), some (.int (l2 + ((4 : Int32) * l3)))], [.int ((l2 + ((4 : Int32) * l3)) + (1 : Int32)), .int l1, .ref 41, .int (Int64.toInt32 q5.1), .ref 13], i_S X q5.2)) rfl ?_
      obtain ⟨q6, hq6, h⟩ := i_bdE h
      refine i_rcall (k := 27) (as := [.ref 41, .int l1, .int ((l2 + ((4 : Int32) * l3)) + (1 : Int32))]) (cf1 := (66, [some (.ref 0), some (.int l1), some (.int l2), some (.int l3), some (.int (l2 + ((4 : Int32) * l3)))], [.int (Int64.toInt32 q5.1), .ref 13], i_S X q5.2)) (cf' := (66, [some (.ref 0), some (.int l1), some (.int l2), some (.int l3), some (.int (l2 + ((4 : Int32) * l3)))], [.long q6.1, .int (Int64.toInt32 q5.1), .ref 13], i_S X q6.2)) rfl (ok_b_Shelves_get (by omega) hq6) rfl ?_
      refine i_rs 7 (cf' := (76, [some (.ref 0), some (.int l1), some (.int l2), some (.int l3), some (.int (l2 + ((4 : Int32) * l3)))], [.int ((l2 + ((4 : Int32) * l3)) + (2 : Int32)), .int l1, .ref 41, .int (Int64.toInt32 q6.1), .int (Int64.toInt32 q5.1), .ref 13], i_S X q6.2)) rfl ?_
      obtain ⟨q7, hq7, h⟩ := i_bdE h
      refine i_rcall (k := 27) (as := [.ref 41, .int l1, .int ((l2 + ((4 : Int32) * l3)) + (2 : Int32))]) (cf1 := (79, [some (.ref 0), some (.int l1), some (.int l2), some (.int l3), some (.int (l2 + ((4 : Int32) * l3)))], [.int (Int64.toInt32 q6.1), .int (Int64.toInt32 q5.1), .ref 13], i_S X q6.2)) (cf' := (79, [some (.ref 0), some (.int l1), some (.int l2), some (.int l3), some (.int (l2 + ((4 : Int32) * l3)))], [.long q7.1, .int (Int64.toInt32 q6.1), .int (Int64.toInt32 q5.1), .ref 13], i_S X q7.2)) rfl (ok_b_Shelves_get (by omega) hq7) rfl ?_
      refine i_rs 7 (cf' := (89, [some (.ref 0), some (.int l1), some (.int l2), some (.int l3), some (.int (l2 + ((4 : Int32) * l3)))], [.int ((l2 + ((4 : Int32) * l3)) + (3 : Int32)), .int l1, .ref 41, .int (Int64.toInt32 q7.1), .int (Int64.toInt32 q6.1), .int (Int64.toInt32 q5.1), .ref 13], i_S X q7.2)) rfl ?_
      obtain ⟨q8, hq8, h⟩ := i_bdE h
      refine i_rcall (k := 27) (as := [.ref 41, .int l1, .int ((l2 + ((4 : Int32) * l3)) + (3 : Int32))]) (cf1 := (92, [some (.ref 0), some (.int l1), some (.int l2), some (.int l3), some (.int (l2 + ((4 : Int32) * l3)))], [.int (Int64.toInt32 q7.1), .int (Int64.toInt32 q6.1), .int (Int64.toInt32 q5.1), .ref 13], i_S X q7.2)) (cf' := (92, [some (.ref 0), some (.int l1), some (.int l2), some (.int l3), some (.int (l2 + ((4 : Int32) * l3)))], [.long q8.1, .int (Int64.toInt32 q7.1), .int (Int64.toInt32 q6.1), .int (Int64.toInt32 q5.1), .ref 13], i_S X q8.2)) rfl (ok_b_Shelves_get (by omega) hq8) rfl ?_
      refine i_rs 1 (cf' := (93, [some (.ref 0), some (.int l1), some (.int l2), some (.int l3), some (.int (l2 + ((4 : Int32) * l3)))], [.int (Int64.toInt32 q8.1), .int (Int64.toInt32 q7.1), .int (Int64.toInt32 q6.1), .int (Int64.toInt32 q5.1), .ref 13], i_S X q8.2)) rfl ?_
      obtain ⟨q9, hq9, h⟩ := i_bdE h
      refine i_rcall (k := 19) (as := [.ref 13, .int (Int64.toInt32 q5.1), .int (Int64.toInt32 q6.1), .int (Int64.toInt32 q7.1), .int (Int64.toInt32 q8.1)]) (cf1 := (96, [some (.ref 0), some (.int l1), some (.int l2), some (.int l3), some (.int (l2 + ((4 : Int32) * l3)))], [], i_S X q8.2)) (cf' := (96, [some (.ref 0), some (.int l1), some (.int l2), some (.int l3), some (.int (l2 + ((4 : Int32) * l3)))], [.int q9.1], i_S X q9.2)) rfl (ok_b_Buried_bury (by omega) hq9) rfl ?_
      by_cases c10 : q9.1 < (0 : Int32)
      · replace h := (if_pos c10).symm.trans h
        refine i_rbT (c := q9.1 < (0 : Int32)) (t := 103) (n := 99) rfl c10 ?_
        refine i_rs 1 (cf' := (104, [some (.ref 0), some (.int l1), some (.int l2), some (.int l3), some (.int (l2 + ((4 : Int32) * l3)))], [.int (0 : Int32)], i_S X q9.2)) rfl ?_
        obtain rfl := Option.some.inj h
        exact i_rretZ rfl (Or.inl rfl) rfl
      · replace h := (if_neg c10).symm.trans h
        refine i_rbF (c := q9.1 < (0 : Int32)) (t := 103) (n := 99) rfl c10 ?_
        refine i_rs 2 (cf' := (104, [some (.ref 0), some (.int l1), some (.int l2), some (.int l3), some (.int (l2 + ((4 : Int32) * l3)))], [.int (1 : Int32)], i_S X q9.2)) rfl ?_
        obtain rfl := Option.some.inj h
        exact i_rretZ rfl (Or.inr rfl) rfl
def b_bells_L55 (l1 : Int32) (l2 : Int32) (l3 : Int32) : Nat → Int32 → I_M → Option (Int32 × I_M)
  | 0, _, _ => none
  | n + 1, l4, M =>
    (if l4 < l3 then
        Option.bind (b_comesFrom l1 l2 l4 M) (fun q2 => (if q2.1 = (0 : Int32) then
          some (l4, q2.2)
        else
          (b_bells_L55 l1 l2 l3 n) (l4 + (1 : Int32)) q2.2))
      else
        some (l4, M))
theorem ok_b_bells_L55 {X : Nat × (Nat → Int32)} {d : Nat} {l1 : Int32} {l2 : Int32} {l3 : Int32} (hd : 5 ≤ d + 1) : ∀ (n : Nat) (l4 : Int32) (M : I_M) (r : (Int32 × I_M)), b_bells_L55 l1 l2 l3 n l4 M = some r → I_RnE (I_Ex d) i_c23 (55, [some (.ref 0), some (.int l1), some (.int l2), some (.int l3), some (.int l4)], [], i_S X M) (some (.int r.1)) (i_S X r.2) := by
  intro n
  induction n with
  | zero => intro _ M r h; cases h
  | succ n hself =>
    intro l4 M r h
    rw [b_bells_L55] at h
    refine i_rs 2 (cf' := (58, [some (.ref 0), some (.int l1), some (.int l2), some (.int l3), some (.int l4)], [.int l3, .int l4], i_S X M)) rfl ?_
    by_cases c1 : l4 < l3
    · replace h := (if_pos c1).symm.trans h
      refine i_rbT (c := l4 < l3) (t := 61) (n := 78) rfl c1 ?_
      refine i_rs 4 (cf' := (66, [some (.ref 0), some (.int l1), some (.int l2), some (.int l3), some (.int l4)], [.int l4, .int l2, .int l1, .ref 0], i_S X M)) rfl ?_
      obtain ⟨q2, hq2, h⟩ := i_bdE h
      refine i_rcall (k := 25) (as := [.ref 0, .int l1, .int l2, .int l4]) (cf1 := (69, [some (.ref 0), some (.int l1), some (.int l2), some (.int l3), some (.int l4)], [], i_S X M)) (cf' := (69, [some (.ref 0), some (.int l1), some (.int l2), some (.int l3), some (.int l4)], [.int q2.1], i_S X q2.2)) rfl (ok_b_comesFrom (by omega) hq2) rfl ?_
      by_cases c3 : q2.1 = (0 : Int32)
      · replace h := (if_pos c3).symm.trans h
        refine i_rbT (c := q2.1 = (0 : Int32)) (t := 78) (n := 72) rfl c3 ?_
        refine i_rs 1 (cf' := (80, [some (.ref 0), some (.int l1), some (.int l2), some (.int l3), some (.int l4)], [.int l4], i_S X q2.2)) rfl ?_
        obtain rfl := Option.some.inj h
        exact i_rret rfl rfl
      · replace h := (if_neg c3).symm.trans h
        refine i_rbF (c := q2.1 = (0 : Int32)) (t := 78) (n := 72) rfl c3 ?_
        refine i_rs 2 (cf' := (55, [some (.ref 0), some (.int l1), some (.int l2), some (.int l3), some (.int (l4 + (1 : Int32)))], [], i_S X q2.2)) rfl ?_
        refine i_fg (lv' := [some (.ref 0), some (.int l1), some (.int l2), some (.int l3), some (.int (l4 + (1 : Int32)))]) (And.intro rfl (And.intro rfl (And.intro rfl (And.intro rfl (And.intro rfl True.intro))))) ?_
        exact hself (l4 + (1 : Int32)) q2.2 _ h
    · replace h := (if_neg c1).symm.trans h
      refine i_rbF (c := l4 < l3) (t := 61) (n := 78) rfl c1 ?_
      refine i_rs 1 (cf' := (80, [some (.ref 0), some (.int l1), some (.int l2), some (.int l3), some (.int l4)], [.int l4], i_S X M)) rfl ?_
      obtain rfl := Option.some.inj h
      exact i_rret rfl rfl
def b_bells (l1 : Int32) (l2 : Int32) (l3 : Int32) (M : I_M) : Option (Int32 × I_M) :=
  Option.bind (b_Shelves_isShelf l1 M) (fun q4 => (if q4.1 = (0 : Int32) then
      some ((-1 : Int32), q4.2)
    else
      (if l3 < (1 : Int32) then
        some ((-1 : Int32), q4.2)
      else
        (if (6 : Int32) < l3 then
          some ((-1 : Int32), q4.2)
        else
          i_g l1 6 ((if (q4.2.1 42 (Int32.toNatClampNeg l1)) = (-1 : Int32) then
            b_bells_L55 l1 l2 l3 i_F (0 : Int32) q4.2
          else
            (if (q4.2.1 42 (Int32.toNatClampNeg l1)) = (0 : Int32) then
              b_bells_L55 l1 l2 l3 i_F (0 : Int32) q4.2
            else
              some ((-12 : Int32), q4.2))))))))
theorem ok_b_bells {X : Nat × (Nat → Int32)} {d : Nat} {l1 : Int32} {l2 : Int32} {l3 : Int32} {M : I_M} {r : (Int32 × I_M)} (hd : 5 ≤ d) (h : b_bells l1 l2 l3 M = some r) : I_Ex d 23 [.ref 0, .int l1, .int l2, .int l3] (i_S X M) (some (.int r.1)) (i_S X r.2) := by
  obtain ⟨d, rfl⟩ : ∃ d1, d = d1 + 1 := ⟨d - 1, by omega⟩
  unfold b_bells at h
  refine i_ex (e := i_r23) (lv := [some (.ref 0), some (.int l1), some (.int l2), some (.int l3), none]) rfl (Nat.le_of_ble_eq_true rfl) rfl ?_
  show I_RnE (I_Ex d) i_c23 (0, [some (.ref 0), some (.int l1), some (.int l2), some (.int l3), none], [], i_S X M) _ _
  refine i_rs 3 (cf' := (5, [some (.ref 0), some (.int l1), some (.int l2), some (.int l3), none], [.int l1, .ref 41], i_S X M)) rfl ?_
  obtain ⟨q4, hq4, h⟩ := i_bdE h
  refine i_rcall (k := 24) (as := [.ref 41, .int l1]) (cf1 := (8, [some (.ref 0), some (.int l1), some (.int l2), some (.int l3), none], [], i_S X M)) (cf' := (8, [some (.ref 0), some (.int l1), some (.int l2), some (.int l3), none], [.int q4.1], i_S X q4.2)) rfl (ok_b_Shelves_isShelf (by omega) hq4) rfl ?_
  by_cases c5 : q4.1 = (0 : Int32)
  · replace h := (if_pos c5).symm.trans h
    refine i_rbT (c := q4.1 = (0 : Int32)) (t := 22) (n := 11) rfl c5 ?_
    refine i_rs 1 (cf' := (23, [some (.ref 0), some (.int l1), some (.int l2), some (.int l3), none], [.int (-1 : Int32)], i_S X q4.2)) rfl ?_
    obtain rfl := Option.some.inj h
    exact i_rret rfl rfl
  · replace h := (if_neg c5).symm.trans h
    refine i_rbF (c := q4.1 = (0 : Int32)) (t := 22) (n := 11) rfl c5 ?_
    refine i_rs 2 (cf' := (13, [some (.ref 0), some (.int l1), some (.int l2), some (.int l3), none], [.int (1 : Int32), .int l3], i_S X q4.2)) rfl ?_
    by_cases c6 : l3 < (1 : Int32)
    · replace h := (if_pos c6).symm.trans h
      refine i_rbT (c := l3 < (1 : Int32)) (t := 22) (n := 16) rfl c6 ?_
      refine i_rs 1 (cf' := (23, [some (.ref 0), some (.int l1), some (.int l2), some (.int l3), none], [.int (-1 : Int32)], i_S X q4.2)) rfl ?_
      obtain rfl := Option.some.inj h
      exact i_rret rfl rfl
    · replace h := (if_neg c6).symm.trans h
      refine i_rbF (c := l3 < (1 : Int32)) (t := 22) (n := 16) rfl c6 ?_
      refine i_rs 2 (cf' := (19, [some (.ref 0), some (.int l1), some (.int l2), some (.int l3), none], [.int (6 : Int32), .int l3], i_S X q4.2)) rfl ?_
      by_cases c7 : (6 : Int32) < l3
      · replace h := (if_pos c7).symm.trans h
        refine i_rbT (c := (6 : Int32) < l3) (t := 22) (n := 24) rfl c7 ?_
        refine i_rs 1 (cf' := (23, [some (.ref 0), some (.int l1), some (.int l2), some (.int l3), none], [.int (-1 : Int32)], i_S X q4.2)) rfl ?_
        obtain rfl := Option.some.inj h
        exact i_rret rfl rfl
      · replace h := (if_neg c7).symm.trans h
        refine i_rbF (c := (6 : Int32) < l3) (t := 22) (n := 24) rfl c7 ?_
        refine i_rs 4 (cf' := (32, [some (.ref 0), some (.int l1), some (.int l2), some (.int l3), none], [.int l1, .ref 42], i_S X q4.2)) rfl ?_
        obtain ⟨g8, h⟩ := i_gE h
        refine i_riald (n := 6) (cf' := (33, [some (.ref 0), some (.int l1), some (.int l2), some (.int l3), none], [.int (q4.2.1 42 (Int32.toNatClampNeg l1))], i_S X q4.2)) rfl rfl (by decide) g8 rfl ?_
        refine i_rs 1 (cf' := (34, [some (.ref 0), some (.int l1), some (.int l2), some (.int l3), none], [.int (-1 : Int32), .int (q4.2.1 42 (Int32.toNatClampNeg l1))], i_S X q4.2)) rfl ?_
        by_cases c9 : (q4.2.1 42 (Int32.toNatClampNeg l1)) = (-1 : Int32)
        · replace h := (if_pos c9).symm.trans h
          refine i_rbT (c := (q4.2.1 42 (Int32.toNatClampNeg l1)) = (-1 : Int32)) (t := 52) (n := 37) rfl c9 ?_
          refine i_rs 2 (cf' := (55, [some (.ref 0), some (.int l1), some (.int l2), some (.int l3), some (.int (0 : Int32))], [], i_S X q4.2)) rfl ?_
          refine i_fg (lv' := [some (.ref 0), some (.int l1), some (.int l2), some (.int l3), some (.int (0 : Int32))]) (And.intro rfl (And.intro rfl (And.intro rfl (And.intro rfl (And.intro rfl True.intro))))) ?_
          refine ok_b_bells_L55 (by omega) i_F (0 : Int32) q4.2 _ h
        · replace h := (if_neg c9).symm.trans h
          refine i_rbF (c := (q4.2.1 42 (Int32.toNatClampNeg l1)) = (-1 : Int32)) (t := 52) (n := 37) rfl c9 ?_
          refine i_rs 4 (cf' := (45, [some (.ref 0), some (.int l1), some (.int l2), some (.int l3), none], [.int l1, .ref 42], i_S X q4.2)) rfl ?_
          refine i_riald (n := 6) (cf' := (46, [some (.ref 0), some (.int l1), some (.int l2), some (.int l3), none], [.int (q4.2.1 42 (Int32.toNatClampNeg l1))], i_S X q4.2)) rfl rfl (by decide) g8 rfl ?_
          by_cases c10 : (q4.2.1 42 (Int32.toNatClampNeg l1)) = (0 : Int32)
          · replace h := (if_pos c10).symm.trans h
            refine i_rbT (c := (q4.2.1 42 (Int32.toNatClampNeg l1)) = (0 : Int32)) (t := 52) (n := 49) rfl c10 ?_
            refine i_rs 2 (cf' := (55, [some (.ref 0), some (.int l1), some (.int l2), some (.int l3), some (.int (0 : Int32))], [], i_S X q4.2)) rfl ?_
            refine i_fg (lv' := [some (.ref 0), some (.int l1), some (.int l2), some (.int l3), some (.int (0 : Int32))]) (And.intro rfl (And.intro rfl (And.intro rfl (And.intro rfl (And.intro rfl True.intro))))) ?_
            refine ok_b_bells_L55 (by omega) i_F (0 : Int32) q4.2 _ h
          · replace h := (if_neg c10).symm.trans h
            refine i_rbF (c := (q4.2.1 42 (Int32.toNatClampNeg l1)) = (0 : Int32)) (t := 52) (n := 49) rfl c10 ?_
            refine i_rs 1 (cf' := (51, [some (.ref 0), some (.int l1), some (.int l2), some (.int l3), none], [.int (-12 : Int32)], i_S X q4.2)) rfl ?_
            obtain rfl := Option.some.inj h
            exact i_rret rfl rfl
def r_isShelf (l0 : Int32) (M : I_M) : Option (Int32 × I_M) :=
  Option.bind (r_within (Int32.toInt64 l0) (0 : Int64) (5 : Int64) M) (fun q1 => i_zo q1.1 (some (q1.1, q1.2)))
theorem ok_r_isShelf {X : Nat × (Nat → Int32)} {d : Nat} {l0 : Int32} {M : I_M} {r : (Int32 × I_M)} (hd : 2 ≤ d) (h : r_isShelf l0 M = some r) : I_Ex d 181 [.int l0] (i_S X M) (some (.int r.1)) (i_S X r.2) := by
  obtain ⟨d, rfl⟩ : ∃ d1, d = d1 + 1 := ⟨d - 1, by omega⟩
  unfold r_isShelf at h
  refine i_ex (e := i_r181) (lv := [some (.int l0)]) rfl (Nat.le_of_ble_eq_true rfl) rfl ?_
  show I_RnE (I_Ex d) i_c181 (0, [some (.int l0)], [], i_S X M) _ _
  refine i_rs 4 (cf' := (6, [some (.int l0)], [.long (5 : Int64), .long (0 : Int64), .long (Int32.toInt64 l0)], i_S X M)) rfl ?_
  obtain ⟨q1, hq1, h⟩ := i_bdE h
  refine i_rcall (k := 175) (as := [.long (Int32.toInt64 l0), .long (0 : Int64), .long (5 : Int64)]) (cf1 := (9, [some (.int l0)], [], i_S X M)) (cf' := (9, [some (.int l0)], [.int q1.1], i_S X q1.2)) rfl (ok_r_within (by omega) hq1) rfl ?_
  obtain ⟨z2, h⟩ := i_zoE h
  obtain rfl := Option.some.inj h
  exact i_rretZ rfl z2 rfl
def r_bells_B205 (self : Int32 → Int32 → I_M → Option (Int32 × I_M)) (l1 : Int32) (l2 : Int32) (l3 : Int32) (l4 : Int32) (l6 : Int32) (s0 : Int32) (M : I_M) : Option (Int32 × I_M) :=
  (if s0 = (0 : Int32) then
      self l4 s0 M
    else
      i_g l6 360 (i_g (l6 + (1 : Int32)) 360 (i_g (l6 + (2 : Int32)) 360 (i_g (l6 + (3 : Int32)) 360 (Option.bind (r_adds (Int64.toInt32 (M.2 72 (Int32.toNatClampNeg l6))) (Int64.toInt32 (M.2 72 (Int32.toNatClampNeg (l6 + (1 : Int32))))) (Int64.toInt32 (M.2 72 (Int32.toNatClampNeg (l6 + (2 : Int32))))) (Int64.toInt32 (M.2 72 (Int32.toNatClampNeg (l6 + (3 : Int32))))) M) (fun q14 => self (l4 + (1 : Int32)) s0 q14))))))
theorem ok_r_bells_B205 {X : Nat × (Nat → Int32)} {d : Nat} {self : Int32 → Int32 → I_M → Option (Int32 × I_M)} {l1 : Int32} {l2 : Int32} {l3 : Int32} {l4 : Int32} {l6 : Int32} {s0 : Int32} {M : I_M} {r : (Int32 × I_M)} (hself : ∀ (m4 : Int32) (m5 : Int32) (M : I_M) (r : (Int32 × I_M)), self m4 m5 M = some r → I_RnE (I_Ex d) i_c180 (69, [some (.ref 50), some (.int l1), some (.int l2), some (.int l3), some (.int m4), some (.int m5), none], [], i_S X M) (some (.int r.1)) (i_S X r.2)) (hd : 3 ≤ d + 1) (h : r_bells_B205 self l1 l2 l3 l4 l6 s0 M = some r) : I_RnE (I_Ex d) i_c180 (205, [some (.ref 50), some (.int l1), some (.int l2), some (.int l3), some (.int l4), none, some (.int l6)], [.int s0], i_S X M) (some (.int r.1)) (i_S X r.2) := by
  unfold r_bells_B205 at h
  refine i_rs 2 (cf' := (209, [some (.ref 50), some (.int l1), some (.int l2), some (.int l3), some (.int l4), some (.int s0), some (.int l6)], [.int s0], i_S X M)) rfl ?_
  by_cases c9 : s0 = (0 : Int32)
  · replace h := (if_pos c9).symm.trans h
    refine i_rbT (c := s0 = (0 : Int32)) (t := 257) (n := 212) rfl c9 ?_
    refine i_rs 1 (cf' := (69, [some (.ref 50), some (.int l1), some (.int l2), some (.int l3), some (.int l4), some (.int s0), some (.int l6)], [], i_S X M)) rfl ?_
    refine i_fg (lv' := [some (.ref 50), some (.int l1), some (.int l2), some (.int l3), some (.int l4), some (.int s0), none]) (And.intro rfl (And.intro rfl (And.intro rfl (And.intro rfl (And.intro rfl (And.intro rfl True.intro)))))) ?_
    exact hself l4 s0 M _ h
  · replace h := (if_neg c9).symm.trans h
    refine i_rbF (c := s0 = (0 : Int32)) (t := 257) (n := 212) rfl c9 ?_
    refine i_rs 4 (cf' := (219, [some (.ref 50), some (.int l1), some (.int l2), some (.int l3), some (.int l4), some (.int s0), some (.int l6)], [.int l6, .ref 72, .ref 50], i_S X M)) rfl ?_
    obtain ⟨g10, h⟩ := i_gE h
    refine i_rlald (n := 360) (cf' := (220, [some (.ref 50), some (.int l1), some (.int l2), some (.int l3), some (.int l4), some (.int s0), some (.int l6)], [.long (M.2 72 (Int32.toNatClampNeg l6)), .ref 50], i_S X M)) rfl rfl g10 rfl ?_
    refine i_rs 6 (cf' := (229, [some (.ref 50), some (.int l1), some (.int l2), some (.int l3), some (.int l4), some (.int s0), some (.int l6)], [.int (l6 + (1 : Int32)), .ref 72, .int (Int64.toInt32 (M.2 72 (Int32.toNatClampNeg l6))), .ref 50], i_S X M)) rfl ?_
    obtain ⟨g11, h⟩ := i_gE h
    refine i_rlald (n := 360) (cf' := (230, [some (.ref 50), some (.int l1), some (.int l2), some (.int l3), some (.int l4), some (.int s0), some (.int l6)], [.long (M.2 72 (Int32.toNatClampNeg (l6 + (1 : Int32)))), .int (Int64.toInt32 (M.2 72 (Int32.toNatClampNeg l6))), .ref 50], i_S X M)) rfl rfl g11 rfl ?_
    refine i_rs 6 (cf' := (239, [some (.ref 50), some (.int l1), some (.int l2), some (.int l3), some (.int l4), some (.int s0), some (.int l6)], [.int (l6 + (2 : Int32)), .ref 72, .int (Int64.toInt32 (M.2 72 (Int32.toNatClampNeg (l6 + (1 : Int32))))), .int (Int64.toInt32 (M.2 72 (Int32.toNatClampNeg l6))), .ref 50], i_S X M)) rfl ?_
    obtain ⟨g12, h⟩ := i_gE h
    refine i_rlald (n := 360) (cf' := (240, [some (.ref 50), some (.int l1), some (.int l2), some (.int l3), some (.int l4), some (.int s0), some (.int l6)], [.long (M.2 72 (Int32.toNatClampNeg (l6 + (2 : Int32)))), .int (Int64.toInt32 (M.2 72 (Int32.toNatClampNeg (l6 + (1 : Int32))))), .int (Int64.toInt32 (M.2 72 (Int32.toNatClampNeg l6))), .ref 50], i_S X M)) rfl rfl g12 rfl ?_
    refine i_rs 6 (cf' := (249, [some (.ref 50), some (.int l1), some (.int l2), some (.int l3), some (.int l4), some (.int s0), some (.int l6)], [.int (l6 + (3 : Int32)), .ref 72, .int (Int64.toInt32 (M.2 72 (Int32.toNatClampNeg (l6 + (2 : Int32))))), .int (Int64.toInt32 (M.2 72 (Int32.toNatClampNeg (l6 + (1 : Int32))))), .int (Int64.toInt32 (M.2 72 (Int32.toNatClampNeg l6))), .ref 50], i_S X M)) rfl ?_
    obtain ⟨g13, h⟩ := i_gE h
    refine i_rlald (n := 360) (cf' := (250, [some (.ref 50), some (.int l1), some (.int l2), some (.int l3), some (.int l4), some (.int s0), some (.int l6)], [.long (M.2 72 (Int32.toNatClampNeg (l6 + (3 : Int32)))), .int (Int64.toInt32 (M.2 72 (Int32.toNatClampNeg (l6 + (2 : Int32))))), .int (Int64.toInt32 (M.2 72 (Int32.toNatClampNeg (l6 + (1 : Int32))))), .int (Int64.toInt32 (M.2 72 (Int32.toNatClampNeg l6))), .ref 50], i_S X M)) rfl rfl g13 rfl ?_
    refine i_rs 1 (cf' := (251, [some (.ref 50), some (.int l1), some (.int l2), some (.int l3), some (.int l4), some (.int s0), some (.int l6)], [.int (Int64.toInt32 (M.2 72 (Int32.toNatClampNeg (l6 + (3 : Int32))))), .int (Int64.toInt32 (M.2 72 (Int32.toNatClampNeg (l6 + (2 : Int32))))), .int (Int64.toInt32 (M.2 72 (Int32.toNatClampNeg (l6 + (1 : Int32))))), .int (Int64.toInt32 (M.2 72 (Int32.toNatClampNeg l6))), .ref 50], i_S X M)) rfl ?_
    obtain ⟨q14, hq14, h⟩ := i_bdE h
    refine i_rcall (k := 179) (as := [.ref 50, .int (Int64.toInt32 (M.2 72 (Int32.toNatClampNeg l6))), .int (Int64.toInt32 (M.2 72 (Int32.toNatClampNeg (l6 + (1 : Int32))))), .int (Int64.toInt32 (M.2 72 (Int32.toNatClampNeg (l6 + (2 : Int32))))), .int (Int64.toInt32 (M.2 72 (Int32.toNatClampNeg (l6 + (3 : Int32)))))]) (cf1 := (254, [some (.ref 50), some (.int l1), some (.int l2), some (.int l3), some (.int l4), some (.int s0), some (.int l6)], [], i_S X M)) (cf' := (254, [some (.ref 50), some (.int l1), some (.int l2), some (.int l3), some (.int l4), some (.int s0), some (.int l6)], [], i_S X q14)) rfl (ok_r_adds (by omega) hq14) rfl ?_
    refine i_rs 2 (cf' := (69, [some (.ref 50), some (.int l1), some (.int l2), some (.int l3), some (.int (l4 + (1 : Int32))), some (.int s0), some (.int l6)], [], i_S X q14)) rfl ?_
    refine i_fg (lv' := [some (.ref 50), some (.int l1), some (.int l2), some (.int l3), some (.int (l4 + (1 : Int32))), some (.int s0), none]) (And.intro rfl (And.intro rfl (And.intro rfl (And.intro rfl (And.intro rfl (And.intro rfl True.intro)))))) ?_
    exact hself (l4 + (1 : Int32)) s0 q14 _ h
def r_bells_B111 (self : Int32 → Int32 → I_M → Option (Int32 × I_M)) (l1 : Int32) (l2 : Int32) (l3 : Int32) (l4 : Int32) (s0 : Int32) (M : I_M) : Option (Int32 × I_M) :=
  (if s0 = (0 : Int32) then
      r_bells_B205 self l1 l2 l3 l4 ((((60 : Int32) * l1) + l2) + ((4 : Int32) * l4)) (0 : Int32) M
    else
      i_g ((((60 : Int32) * l1) + l2) + ((4 : Int32) * l4)) 360 (Option.bind (r_isBare (M.2 72 (Int32.toNatClampNeg ((((60 : Int32) * l1) + l2) + ((4 : Int32) * l4)))) M) (fun q17 => (if q17.1 = (0 : Int32) then
        r_bells_B205 self l1 l2 l3 l4 ((((60 : Int32) * l1) + l2) + ((4 : Int32) * l4)) (0 : Int32) q17.2
      else
        i_g (((((60 : Int32) * l1) + l2) + ((4 : Int32) * l4)) + (1 : Int32)) 360 (Option.bind (r_within (q17.2.2 72 (Int32.toNatClampNeg (((((60 : Int32) * l1) + l2) + ((4 : Int32) * l4)) + (1 : Int32)))) (0 : Int64) (9 : Int64) q17.2) (fun q20 => (if q20.1 = (0 : Int32) then
          r_bells_B205 self l1 l2 l3 l4 ((((60 : Int32) * l1) + l2) + ((4 : Int32) * l4)) (0 : Int32) q20.2
        else
          i_g (((((60 : Int32) * l1) + l2) + ((4 : Int32) * l4)) + (2 : Int32)) 360 (Option.bind (r_within (q20.2.2 72 (Int32.toNatClampNeg (((((60 : Int32) * l1) + l2) + ((4 : Int32) * l4)) + (2 : Int32)))) (0 : Int64) (9 : Int64) q20.2) (fun q23 => (if q23.1 = (0 : Int32) then
            r_bells_B205 self l1 l2 l3 l4 ((((60 : Int32) * l1) + l2) + ((4 : Int32) * l4)) (0 : Int32) q23.2
          else
            i_g (((((60 : Int32) * l1) + l2) + ((4 : Int32) * l4)) + (3 : Int32)) 360 (Option.bind (r_within (q23.2.2 72 (Int32.toNatClampNeg (((((60 : Int32) * l1) + l2) + ((4 : Int32) * l4)) + (3 : Int32)))) (0 : Int64) (1 : Int64) q23.2) (fun q26 => (if q26.1 = (0 : Int32) then
              r_bells_B205 self l1 l2 l3 l4 ((((60 : Int32) * l1) + l2) + ((4 : Int32) * l4)) (0 : Int32) q26.2
            else
              r_bells_B205 self l1 l2 l3 l4 ((((60 : Int32) * l1) + l2) + ((4 : Int32) * l4)) (1 : Int32) q26.2)))))))))))))
theorem ok_r_bells_B111 {X : Nat × (Nat → Int32)} {d : Nat} {self : Int32 → Int32 → I_M → Option (Int32 × I_M)} {l1 : Int32} {l2 : Int32} {l3 : Int32} {l4 : Int32} {s0 : Int32} {M : I_M} {r : (Int32 × I_M)} (hself : ∀ (m4 : Int32) (m5 : Int32) (M : I_M) (r : (Int32 × I_M)), self m4 m5 M = some r → I_RnE (I_Ex d) i_c180 (69, [some (.ref 50), some (.int l1), some (.int l2), some (.int l3), some (.int m4), some (.int m5), none], [], i_S X M) (some (.int r.1)) (i_S X r.2)) (hd : 3 ≤ d + 1) (h : r_bells_B111 self l1 l2 l3 l4 s0 M = some r) : I_RnE (I_Ex d) i_c180 (111, [some (.ref 50), some (.int l1), some (.int l2), some (.int l3), some (.int l4), none, none], [.int s0], i_S X M) (some (.int r.1)) (i_S X r.2) := by
  unfold r_bells_B111 at h
  refine i_rs 12 (cf' := (128, [some (.ref 50), some (.int l1), some (.int l2), some (.int l3), some (.int l4), some (.int s0), some (.int ((((60 : Int32) * l1) + l2) + ((4 : Int32) * l4)))], [.int s0], i_S X M)) rfl ?_
  by_cases c15 : s0 = (0 : Int32)
  · replace h := (if_pos c15).symm.trans h
    refine i_rbT (c := s0 = (0 : Int32)) (t := 204) (n := 131) rfl c15 ?_
    refine i_rs 1 (cf' := (205, [some (.ref 50), some (.int l1), some (.int l2), some (.int l3), some (.int l4), some (.int s0), some (.int ((((60 : Int32) * l1) + l2) + ((4 : Int32) * l4)))], [.int (0 : Int32)], i_S X M)) rfl ?_
    refine i_fg (lv' := [some (.ref 50), some (.int l1), some (.int l2), some (.int l3), some (.int l4), none, some (.int ((((60 : Int32) * l1) + l2) + ((4 : Int32) * l4)))]) (And.intro rfl (And.intro rfl (And.intro rfl (And.intro rfl (And.intro rfl (And.intro rfl True.intro)))))) ?_
    exact ok_r_bells_B205 hself (by omega) h
  · replace h := (if_neg c15).symm.trans h
    refine i_rbF (c := s0 = (0 : Int32)) (t := 204) (n := 131) rfl c15 ?_
    refine i_rs 4 (cf' := (138, [some (.ref 50), some (.int l1), some (.int l2), some (.int l3), some (.int l4), some (.int s0), some (.int ((((60 : Int32) * l1) + l2) + ((4 : Int32) * l4)))], [.int ((((60 : Int32) * l1) + l2) + ((4 : Int32) * l4)), .ref 72, .ref 50], i_S X M)) rfl ?_
    obtain ⟨g16, h⟩ := i_gE h
    refine i_rlald (n := 360) (cf' := (139, [some (.ref 50), some (.int l1), some (.int l2), some (.int l3), some (.int l4), some (.int s0), some (.int ((((60 : Int32) * l1) + l2) + ((4 : Int32) * l4)))], [.long (M.2 72 (Int32.toNatClampNeg ((((60 : Int32) * l1) + l2) + ((4 : Int32) * l4)))), .ref 50], i_S X M)) rfl rfl g16 rfl ?_
    obtain ⟨q17, hq17, h⟩ := i_bdE h
    refine i_rcall (k := 177) (as := [.ref 50, .long (M.2 72 (Int32.toNatClampNeg ((((60 : Int32) * l1) + l2) + ((4 : Int32) * l4))))]) (cf1 := (142, [some (.ref 50), some (.int l1), some (.int l2), some (.int l3), some (.int l4), some (.int s0), some (.int ((((60 : Int32) * l1) + l2) + ((4 : Int32) * l4)))], [], i_S X M)) (cf' := (142, [some (.ref 50), some (.int l1), some (.int l2), some (.int l3), some (.int l4), some (.int s0), some (.int ((((60 : Int32) * l1) + l2) + ((4 : Int32) * l4)))], [.int q17.1], i_S X q17.2)) rfl (ok_r_isBare (by omega) hq17) rfl ?_
    by_cases c18 : q17.1 = (0 : Int32)
    · replace h := (if_pos c18).symm.trans h
      refine i_rbT (c := q17.1 = (0 : Int32)) (t := 204) (n := 145) rfl c18 ?_
      refine i_rs 1 (cf' := (205, [some (.ref 50), some (.int l1), some (.int l2), some (.int l3), some (.int l4), some (.int s0), some (.int ((((60 : Int32) * l1) + l2) + ((4 : Int32) * l4)))], [.int (0 : Int32)], i_S X q17.2)) rfl ?_
      refine i_fg (lv' := [some (.ref 50), some (.int l1), some (.int l2), some (.int l3), some (.int l4), none, some (.int ((((60 : Int32) * l1) + l2) + ((4 : Int32) * l4)))]) (And.intro rfl (And.intro rfl (And.intro rfl (And.intro rfl (And.intro rfl (And.intro rfl True.intro)))))) ?_
      exact ok_r_bells_B205 hself (by omega) h
    · replace h := (if_neg c18).symm.trans h
      refine i_rbF (c := q17.1 = (0 : Int32)) (t := 204) (n := 145) rfl c18 ?_
      refine i_rs 5 (cf' := (153, [some (.ref 50), some (.int l1), some (.int l2), some (.int l3), some (.int l4), some (.int s0), some (.int ((((60 : Int32) * l1) + l2) + ((4 : Int32) * l4)))], [.int (((((60 : Int32) * l1) + l2) + ((4 : Int32) * l4)) + (1 : Int32)), .ref 72], i_S X q17.2)) rfl ?_
      obtain ⟨g19, h⟩ := i_gE h
      refine i_rlald (n := 360) (cf' := (154, [some (.ref 50), some (.int l1), some (.int l2), some (.int l3), some (.int l4), some (.int s0), some (.int ((((60 : Int32) * l1) + l2) + ((4 : Int32) * l4)))], [.long (q17.2.2 72 (Int32.toNatClampNeg (((((60 : Int32) * l1) + l2) + ((4 : Int32) * l4)) + (1 : Int32))))], i_S X q17.2)) rfl rfl g19 rfl ?_
      refine i_rs 2 (cf' := (158, [some (.ref 50), some (.int l1), some (.int l2), some (.int l3), some (.int l4), some (.int s0), some (.int ((((60 : Int32) * l1) + l2) + ((4 : Int32) * l4)))], [.long (9 : Int64), .long (0 : Int64), .long (q17.2.2 72 (Int32.toNatClampNeg (((((60 : Int32) * l1) + l2) + ((4 : Int32) * l4)) + (1 : Int32))))], i_S X q17.2)) rfl ?_
      obtain ⟨q20, hq20, h⟩ := i_bdE h
      refine i_rcall (k := 175) (as := [.long (q17.2.2 72 (Int32.toNatClampNeg (((((60 : Int32) * l1) + l2) + ((4 : Int32) * l4)) + (1 : Int32)))), .long (0 : Int64), .long (9 : Int64)]) (cf1 := (161, [some (.ref 50), some (.int l1), some (.int l2), some (.int l3), some (.int l4), some (.int s0), some (.int ((((60 : Int32) * l1) + l2) + ((4 : Int32) * l4)))], [], i_S X q17.2)) (cf' := (161, [some (.ref 50), some (.int l1), some (.int l2), some (.int l3), some (.int l4), some (.int s0), some (.int ((((60 : Int32) * l1) + l2) + ((4 : Int32) * l4)))], [.int q20.1], i_S X q20.2)) rfl (ok_r_within (by omega) hq20) rfl ?_
      by_cases c21 : q20.1 = (0 : Int32)
      · replace h := (if_pos c21).symm.trans h
        refine i_rbT (c := q20.1 = (0 : Int32)) (t := 204) (n := 164) rfl c21 ?_
        refine i_rs 1 (cf' := (205, [some (.ref 50), some (.int l1), some (.int l2), some (.int l3), some (.int l4), some (.int s0), some (.int ((((60 : Int32) * l1) + l2) + ((4 : Int32) * l4)))], [.int (0 : Int32)], i_S X q20.2)) rfl ?_
        refine i_fg (lv' := [some (.ref 50), some (.int l1), some (.int l2), some (.int l3), some (.int l4), none, some (.int ((((60 : Int32) * l1) + l2) + ((4 : Int32) * l4)))]) (And.intro rfl (And.intro rfl (And.intro rfl (And.intro rfl (And.intro rfl (And.intro rfl True.intro)))))) ?_
        exact ok_r_bells_B205 hself (by omega) h
      · replace h := (if_neg c21).symm.trans h
        refine i_rbF (c := q20.1 = (0 : Int32)) (t := 204) (n := 164) rfl c21 ?_
        refine i_rs 5 (cf' := (172, [some (.ref 50), some (.int l1), some (.int l2), some (.int l3), some (.int l4), some (.int s0), some (.int ((((60 : Int32) * l1) + l2) + ((4 : Int32) * l4)))], [.int (((((60 : Int32) * l1) + l2) + ((4 : Int32) * l4)) + (2 : Int32)), .ref 72], i_S X q20.2)) rfl ?_
        obtain ⟨g22, h⟩ := i_gE h
        refine i_rlald (n := 360) (cf' := (173, [some (.ref 50), some (.int l1), some (.int l2), some (.int l3), some (.int l4), some (.int s0), some (.int ((((60 : Int32) * l1) + l2) + ((4 : Int32) * l4)))], [.long (q20.2.2 72 (Int32.toNatClampNeg (((((60 : Int32) * l1) + l2) + ((4 : Int32) * l4)) + (2 : Int32))))], i_S X q20.2)) rfl rfl g22 rfl ?_
        refine i_rs 2 (cf' := (177, [some (.ref 50), some (.int l1), some (.int l2), some (.int l3), some (.int l4), some (.int s0), some (.int ((((60 : Int32) * l1) + l2) + ((4 : Int32) * l4)))], [.long (9 : Int64), .long (0 : Int64), .long (q20.2.2 72 (Int32.toNatClampNeg (((((60 : Int32) * l1) + l2) + ((4 : Int32) * l4)) + (2 : Int32))))], i_S X q20.2)) rfl ?_
        obtain ⟨q23, hq23, h⟩ := i_bdE h
        refine i_rcall (k := 175) (as := [.long (q20.2.2 72 (Int32.toNatClampNeg (((((60 : Int32) * l1) + l2) + ((4 : Int32) * l4)) + (2 : Int32)))), .long (0 : Int64), .long (9 : Int64)]) (cf1 := (180, [some (.ref 50), some (.int l1), some (.int l2), some (.int l3), some (.int l4), some (.int s0), some (.int ((((60 : Int32) * l1) + l2) + ((4 : Int32) * l4)))], [], i_S X q20.2)) (cf' := (180, [some (.ref 50), some (.int l1), some (.int l2), some (.int l3), some (.int l4), some (.int s0), some (.int ((((60 : Int32) * l1) + l2) + ((4 : Int32) * l4)))], [.int q23.1], i_S X q23.2)) rfl (ok_r_within (by omega) hq23) rfl ?_
        by_cases c24 : q23.1 = (0 : Int32)
        · replace h := (if_pos c24).symm.trans h
          refine i_rbT (c := q23.1 = (0 : Int32)) (t := 204) (n := 183) rfl c24 ?_
          refine i_rs 1 (cf' := (205, [some (.ref 50), some (.int l1), some (.int l2), some (.int l3), some (.int l4), some (.int s0), some (.int ((((60 : Int32) * l1) + l2) + ((4 : Int32) * l4)))], [.int (0 : Int32)], i_S X q23.2)) rfl ?_
          refine i_fg (lv' := [some (.ref 50), some (.int l1), some (.int l2), some (.int l3), some (.int l4), none, some (.int ((((60 : Int32) * l1) + l2) + ((4 : Int32) * l4)))]) (And.intro rfl (And.intro rfl (And.intro rfl (And.intro rfl (And.intro rfl (And.intro rfl True.intro)))))) ?_
          exact ok_r_bells_B205 hself (by omega) h
        · replace h := (if_neg c24).symm.trans h
          refine i_rbF (c := q23.1 = (0 : Int32)) (t := 204) (n := 183) rfl c24 ?_
          refine i_rs 5 (cf' := (191, [some (.ref 50), some (.int l1), some (.int l2), some (.int l3), some (.int l4), some (.int s0), some (.int ((((60 : Int32) * l1) + l2) + ((4 : Int32) * l4)))], [.int (((((60 : Int32) * l1) + l2) + ((4 : Int32) * l4)) + (3 : Int32)), .ref 72], i_S X q23.2)) rfl ?_
          obtain ⟨g25, h⟩ := i_gE h
          refine i_rlald (n := 360) (cf' := (192, [some (.ref 50), some (.int l1), some (.int l2), some (.int l3), some (.int l4), some (.int s0), some (.int ((((60 : Int32) * l1) + l2) + ((4 : Int32) * l4)))], [.long (q23.2.2 72 (Int32.toNatClampNeg (((((60 : Int32) * l1) + l2) + ((4 : Int32) * l4)) + (3 : Int32))))], i_S X q23.2)) rfl rfl g25 rfl ?_
          refine i_rs 2 (cf' := (194, [some (.ref 50), some (.int l1), some (.int l2), some (.int l3), some (.int l4), some (.int s0), some (.int ((((60 : Int32) * l1) + l2) + ((4 : Int32) * l4)))], [.long (1 : Int64), .long (0 : Int64), .long (q23.2.2 72 (Int32.toNatClampNeg (((((60 : Int32) * l1) + l2) + ((4 : Int32) * l4)) + (3 : Int32))))], i_S X q23.2)) rfl ?_
          obtain ⟨q26, hq26, h⟩ := i_bdE h
          refine i_rcall (k := 175) (as := [.long (q23.2.2 72 (Int32.toNatClampNeg (((((60 : Int32) * l1) + l2) + ((4 : Int32) * l4)) + (3 : Int32)))), .long (0 : Int64), .long (1 : Int64)]) (cf1 := (197, [some (.ref 50), some (.int l1), some (.int l2), some (.int l3), some (.int l4), some (.int s0), some (.int ((((60 : Int32) * l1) + l2) + ((4 : Int32) * l4)))], [], i_S X q23.2)) (cf' := (197, [some (.ref 50), some (.int l1), some (.int l2), some (.int l3), some (.int l4), some (.int s0), some (.int ((((60 : Int32) * l1) + l2) + ((4 : Int32) * l4)))], [.int q26.1], i_S X q26.2)) rfl (ok_r_within (by omega) hq26) rfl ?_
          by_cases c27 : q26.1 = (0 : Int32)
          · replace h := (if_pos c27).symm.trans h
            refine i_rbT (c := q26.1 = (0 : Int32)) (t := 204) (n := 200) rfl c27 ?_
            refine i_rs 1 (cf' := (205, [some (.ref 50), some (.int l1), some (.int l2), some (.int l3), some (.int l4), some (.int s0), some (.int ((((60 : Int32) * l1) + l2) + ((4 : Int32) * l4)))], [.int (0 : Int32)], i_S X q26.2)) rfl ?_
            refine i_fg (lv' := [some (.ref 50), some (.int l1), some (.int l2), some (.int l3), some (.int l4), none, some (.int ((((60 : Int32) * l1) + l2) + ((4 : Int32) * l4)))]) (And.intro rfl (And.intro rfl (And.intro rfl (And.intro rfl (And.intro rfl (And.intro rfl True.intro)))))) ?_
            exact ok_r_bells_B205 hself (by omega) h
          · replace h := (if_neg c27).symm.trans h
            refine i_rbF (c := q26.1 = (0 : Int32)) (t := 204) (n := 200) rfl c27 ?_
            refine i_rs 2 (cf' := (205, [some (.ref 50), some (.int l1), some (.int l2), some (.int l3), some (.int l4), some (.int s0), some (.int ((((60 : Int32) * l1) + l2) + ((4 : Int32) * l4)))], [.int (1 : Int32)], i_S X q26.2)) rfl ?_
            refine i_fg (lv' := [some (.ref 50), some (.int l1), some (.int l2), some (.int l3), some (.int l4), none, some (.int ((((60 : Int32) * l1) + l2) + ((4 : Int32) * l4)))]) (And.intro rfl (And.intro rfl (And.intro rfl (And.intro rfl (And.intro rfl (And.intro rfl True.intro)))))) ?_
            exact ok_r_bells_B205 hself (by omega) h
def r_bells_L69 (l1 : Int32) (l2 : Int32) (l3 : Int32) : Nat → Int32 → Int32 → I_M → Option (Int32 × I_M)
  | 0, _, _, _ => none
  | n + 1, l4, l5, M =>
    (if l5 = (0 : Int32) then
        some (l4, M)
      else
        (if l4 < l3 then
          i_g l1 6 ((if (((M.1 71 (Int32.toNatClampNeg l1)) - (4 : Int32)) - ((4 : Int32) * l4)) < l2 then
            r_bells_B111 ((r_bells_L69 l1 l2 l3 n)) l1 l2 l3 l4 (0 : Int32) M
          else
            (if (M.1 50 8) < (6 : Int32) then
              r_bells_B111 ((r_bells_L69 l1 l2 l3 n)) l1 l2 l3 l4 (1 : Int32) M
            else
              r_bells_B111 ((r_bells_L69 l1 l2 l3 n)) l1 l2 l3 l4 (0 : Int32) M)))
        else
          some (l4, M)))
theorem ok_r_bells_L69 {X : Nat × (Nat → Int32)} {d : Nat} {l1 : Int32} {l2 : Int32} {l3 : Int32} (hd : 3 ≤ d + 1) : ∀ (n : Nat) (l4 : Int32) (l5 : Int32) (M : I_M) (r : (Int32 × I_M)), r_bells_L69 l1 l2 l3 n l4 l5 M = some r → I_RnE (I_Ex d) i_c180 (69, [some (.ref 50), some (.int l1), some (.int l2), some (.int l3), some (.int l4), some (.int l5), none], [], i_S X M) (some (.int r.1)) (i_S X r.2) := by
  intro n
  induction n with
  | zero => intro _ _ M r h; cases h
  | succ n hself =>
    intro l4 l5 M r h
    rw [r_bells_L69] at h
    refine i_rs 1 (cf' := (71, [some (.ref 50), some (.int l1), some (.int l2), some (.int l3), some (.int l4), some (.int l5), none], [.int l5], i_S X M)) rfl ?_
    by_cases c1 : l5 = (0 : Int32)
    · replace h := (if_pos c1).symm.trans h
      refine i_rbT (c := l5 = (0 : Int32)) (t := 260) (n := 74) rfl c1 ?_
      refine i_rs 1 (cf' := (262, [some (.ref 50), some (.int l1), some (.int l2), some (.int l3), some (.int l4), some (.int l5), none], [.int l4], i_S X M)) rfl ?_
      obtain rfl := Option.some.inj h
      exact i_rret rfl rfl
    · replace h := (if_neg c1).symm.trans h
      refine i_rbF (c := l5 = (0 : Int32)) (t := 260) (n := 74) rfl c1 ?_
      refine i_rs 2 (cf' := (77, [some (.ref 50), some (.int l1), some (.int l2), some (.int l3), some (.int l4), some (.int l5), none], [.int l3, .int l4], i_S X M)) rfl ?_
      by_cases c2 : l4 < l3
      · replace h := (if_pos c2).symm.trans h
        refine i_rbT (c := l4 < l3) (t := 80) (n := 260) rfl c2 ?_
        refine i_rs 4 (cf' := (86, [some (.ref 50), some (.int l1), some (.int l2), some (.int l3), some (.int l4), some (.int l5), none], [.int l1, .ref 71, .int l2], i_S X M)) rfl ?_
        obtain ⟨g3, h⟩ := i_gE h
        refine i_riald (n := 6) (cf' := (87, [some (.ref 50), some (.int l1), some (.int l2), some (.int l3), some (.int l4), some (.int l5), none], [.int (M.1 71 (Int32.toNatClampNeg l1)), .int l2], i_S X M)) rfl rfl (by decide) g3 rfl ?_
        refine i_rs 6 (cf' := (94, [some (.ref 50), some (.int l1), some (.int l2), some (.int l3), some (.int l4), some (.int l5), none], [.int (((M.1 71 (Int32.toNatClampNeg l1)) - (4 : Int32)) - ((4 : Int32) * l4)), .int l2], i_S X M)) rfl ?_
        by_cases c4 : (((M.1 71 (Int32.toNatClampNeg l1)) - (4 : Int32)) - ((4 : Int32) * l4)) < l2
        · replace h := (if_pos c4).symm.trans h
          refine i_rbT (c := (((M.1 71 (Int32.toNatClampNeg l1)) - (4 : Int32)) - ((4 : Int32) * l4)) < l2) (t := 110) (n := 97) rfl c4 ?_
          refine i_rs 1 (cf' := (111, [some (.ref 50), some (.int l1), some (.int l2), some (.int l3), some (.int l4), some (.int l5), none], [.int (0 : Int32)], i_S X M)) rfl ?_
          refine i_fg (lv' := [some (.ref 50), some (.int l1), some (.int l2), some (.int l3), some (.int l4), none, none]) (And.intro rfl (And.intro rfl (And.intro rfl (And.intro rfl (And.intro rfl True.intro))))) ?_
          exact ok_r_bells_B111 hself (by omega) h
        · replace h := (if_neg c4).symm.trans h
          refine i_rbF (c := (((M.1 71 (Int32.toNatClampNeg l1)) - (4 : Int32)) - ((4 : Int32) * l4)) < l2) (t := 110) (n := 97) rfl c4 ?_
          refine i_rs 3 (cf' := (103, [some (.ref 50), some (.int l1), some (.int l2), some (.int l3), some (.int l4), some (.int l5), none], [.int (6 : Int32), .int (M.1 50 8)], i_S X M)) rfl ?_
          by_cases c5 : (M.1 50 8) < (6 : Int32)
          · replace h := (if_pos c5).symm.trans h
            refine i_rbT (c := (M.1 50 8) < (6 : Int32)) (t := 106) (n := 110) rfl c5 ?_
            refine i_rs 2 (cf' := (111, [some (.ref 50), some (.int l1), some (.int l2), some (.int l3), some (.int l4), some (.int l5), none], [.int (1 : Int32)], i_S X M)) rfl ?_
            refine i_fg (lv' := [some (.ref 50), some (.int l1), some (.int l2), some (.int l3), some (.int l4), none, none]) (And.intro rfl (And.intro rfl (And.intro rfl (And.intro rfl (And.intro rfl True.intro))))) ?_
            exact ok_r_bells_B111 hself (by omega) h
          · replace h := (if_neg c5).symm.trans h
            refine i_rbF (c := (M.1 50 8) < (6 : Int32)) (t := 106) (n := 110) rfl c5 ?_
            refine i_rs 1 (cf' := (111, [some (.ref 50), some (.int l1), some (.int l2), some (.int l3), some (.int l4), some (.int l5), none], [.int (0 : Int32)], i_S X M)) rfl ?_
            refine i_fg (lv' := [some (.ref 50), some (.int l1), some (.int l2), some (.int l3), some (.int l4), none, none]) (And.intro rfl (And.intro rfl (And.intro rfl (And.intro rfl (And.intro rfl True.intro))))) ?_
            exact ok_r_bells_B111 hself (by omega) h
      · replace h := (if_neg c2).symm.trans h
        refine i_rbF (c := l4 < l3) (t := 80) (n := 260) rfl c2 ?_
        refine i_rs 1 (cf' := (262, [some (.ref 50), some (.int l1), some (.int l2), some (.int l3), some (.int l4), some (.int l5), none], [.int l4], i_S X M)) rfl ?_
        obtain rfl := Option.some.inj h
        exact i_rret rfl rfl
def r_bells_B44 (l1 : Int32) (l2 : Int32) (l3 : Int32) (M : I_M) : Option (Int32 × I_M) :=
  i_g l1 6 ((if (M.1 70 (Int32.toNatClampNeg l1)) = (50 : Int32) then
      (if l2 < (0 : Int32) then
        r_bells_L69 l1 l2 l3 i_F (0 : Int32) (0 : Int32) M
      else
        r_bells_L69 l1 l2 l3 i_F (0 : Int32) (1 : Int32) M)
    else
      r_bells_L69 l1 l2 l3 i_F (0 : Int32) (0 : Int32) M))
theorem ok_r_bells_B44 {X : Nat × (Nat → Int32)} {d : Nat} {l1 : Int32} {l2 : Int32} {l3 : Int32} {M : I_M} {r : (Int32 × I_M)} (hd : 3 ≤ d + 1) (h : r_bells_B44 l1 l2 l3 M = some r) : I_RnE (I_Ex d) i_c180 (44, [some (.ref 50), some (.int l1), some (.int l2), some (.int l3), none, none, none], [], i_S X M) (some (.int r.1)) (i_S X r.2) := by
  unfold r_bells_B44 at h
  refine i_rs 5 (cf' := (52, [some (.ref 50), some (.int l1), some (.int l2), some (.int l3), some (.int (0 : Int32)), none, none], [.int l1, .ref 70], i_S X M)) rfl ?_
  obtain ⟨g6, h⟩ := i_gE h
  refine i_riald (n := 6) (cf' := (53, [some (.ref 50), some (.int l1), some (.int l2), some (.int l3), some (.int (0 : Int32)), none, none], [.int (M.1 70 (Int32.toNatClampNeg l1))], i_S X M)) rfl rfl (by decide) g6 rfl ?_
  refine i_rs 1 (cf' := (55, [some (.ref 50), some (.int l1), some (.int l2), some (.int l3), some (.int (0 : Int32)), none, none], [.int (50 : Int32), .int (M.1 70 (Int32.toNatClampNeg l1))], i_S X M)) rfl ?_
  by_cases c7 : (M.1 70 (Int32.toNatClampNeg l1)) = (50 : Int32)
  · replace h := (if_pos c7).symm.trans h
    refine i_rbT (c := (M.1 70 (Int32.toNatClampNeg l1)) = (50 : Int32)) (t := 58) (n := 66) rfl c7 ?_
    refine i_rs 1 (cf' := (59, [some (.ref 50), some (.int l1), some (.int l2), some (.int l3), some (.int (0 : Int32)), none, none], [.int l2], i_S X M)) rfl ?_
    by_cases c8 : l2 < (0 : Int32)
    · replace h := (if_pos c8).symm.trans h
      refine i_rbT (c := l2 < (0 : Int32)) (t := 66) (n := 62) rfl c8 ?_
      refine i_rs 2 (cf' := (69, [some (.ref 50), some (.int l1), some (.int l2), some (.int l3), some (.int (0 : Int32)), some (.int (0 : Int32)), none], [], i_S X M)) rfl ?_
      refine i_fg (lv' := [some (.ref 50), some (.int l1), some (.int l2), some (.int l3), some (.int (0 : Int32)), some (.int (0 : Int32)), none]) (And.intro rfl (And.intro rfl (And.intro rfl (And.intro rfl (And.intro rfl (And.intro rfl True.intro)))))) ?_
      refine ok_r_bells_L69 (by omega) i_F (0 : Int32) (0 : Int32) M _ h
    · replace h := (if_neg c8).symm.trans h
      refine i_rbF (c := l2 < (0 : Int32)) (t := 66) (n := 62) rfl c8 ?_
      refine i_rs 3 (cf' := (69, [some (.ref 50), some (.int l1), some (.int l2), some (.int l3), some (.int (0 : Int32)), some (.int (1 : Int32)), none], [], i_S X M)) rfl ?_
      refine i_fg (lv' := [some (.ref 50), some (.int l1), some (.int l2), some (.int l3), some (.int (0 : Int32)), some (.int (1 : Int32)), none]) (And.intro rfl (And.intro rfl (And.intro rfl (And.intro rfl (And.intro rfl (And.intro rfl True.intro)))))) ?_
      refine ok_r_bells_L69 (by omega) i_F (0 : Int32) (1 : Int32) M _ h
  · replace h := (if_neg c7).symm.trans h
    refine i_rbF (c := (M.1 70 (Int32.toNatClampNeg l1)) = (50 : Int32)) (t := 58) (n := 66) rfl c7 ?_
    refine i_rs 2 (cf' := (69, [some (.ref 50), some (.int l1), some (.int l2), some (.int l3), some (.int (0 : Int32)), some (.int (0 : Int32)), none], [], i_S X M)) rfl ?_
    refine i_fg (lv' := [some (.ref 50), some (.int l1), some (.int l2), some (.int l3), some (.int (0 : Int32)), some (.int (0 : Int32)), none]) (And.intro rfl (And.intro rfl (And.intro rfl (And.intro rfl (And.intro rfl (And.intro rfl True.intro)))))) ?_
    refine ok_r_bells_L69 (by omega) i_F (0 : Int32) (0 : Int32) M _ h
def r_bells (l1 : Int32) (l2 : Int32) (l3 : Int32) (M : I_M) : Option (Int32 × I_M) :=
  Option.bind (r_isShelf l1 M) (fun q28 => (if q28.1 = (0 : Int32) then
      some ((-1 : Int32), q28.2)
    else
      Option.bind (r_within (Int32.toInt64 l3) (1 : Int64) (6 : Int64) q28.2) (fun q30 => (if q30.1 = (0 : Int32) then
        some ((-1 : Int32), q30.2)
      else
        i_g l1 6 ((if (q30.2.1 70 (Int32.toNatClampNeg l1)) < (0 : Int32) then
          r_bells_B44 l1 l2 l3 q30.2
        else
          (if (q30.2.1 70 (Int32.toNatClampNeg l1)) = (50 : Int32) then
            r_bells_B44 l1 l2 l3 q30.2
          else
            some ((-12 : Int32), q30.2))))))))
theorem ok_r_bells {X : Nat × (Nat → Int32)} {d : Nat} {l1 : Int32} {l2 : Int32} {l3 : Int32} {M : I_M} {r : (Int32 × I_M)} (hd : 3 ≤ d) (h : r_bells l1 l2 l3 M = some r) : I_Ex d 180 [.ref 50, .int l1, .int l2, .int l3] (i_S X M) (some (.int r.1)) (i_S X r.2) := by
  obtain ⟨d, rfl⟩ : ∃ d1, d = d1 + 1 := ⟨d - 1, by omega⟩
  unfold r_bells at h
  refine i_ex (e := i_r180) (lv := [some (.ref 50), some (.int l1), some (.int l2), some (.int l3), none, none, none]) rfl (Nat.le_of_ble_eq_true rfl) rfl ?_
  show I_RnE (I_Ex d) i_c180 (0, [some (.ref 50), some (.int l1), some (.int l2), some (.int l3), none, none, none], [], i_S X M) _ _
  refine i_rs 1 (cf' := (1, [some (.ref 50), some (.int l1), some (.int l2), some (.int l3), none, none, none], [.int l1], i_S X M)) rfl ?_
  obtain ⟨q28, hq28, h⟩ := i_bdE h
  refine i_rcall (k := 181) (as := [.int l1]) (cf1 := (4, [some (.ref 50), some (.int l1), some (.int l2), some (.int l3), none, none, none], [], i_S X M)) (cf' := (4, [some (.ref 50), some (.int l1), some (.int l2), some (.int l3), none, none, none], [.int q28.1], i_S X q28.2)) rfl (ok_r_isShelf (by omega) hq28) rfl ?_
  by_cases c29 : q28.1 = (0 : Int32)
  · replace h := (if_pos c29).symm.trans h
    refine i_rbT (c := q28.1 = (0 : Int32)) (t := 19) (n := 7) rfl c29 ?_
    refine i_rs 1 (cf' := (20, [some (.ref 50), some (.int l1), some (.int l2), some (.int l3), none, none, none], [.int (-1 : Int32)], i_S X q28.2)) rfl ?_
    obtain rfl := Option.some.inj h
    exact i_rret rfl rfl
  · replace h := (if_neg c29).symm.trans h
    refine i_rbF (c := q28.1 = (0 : Int32)) (t := 19) (n := 7) rfl c29 ?_
    refine i_rs 4 (cf' := (13, [some (.ref 50), some (.int l1), some (.int l2), some (.int l3), none, none, none], [.long (6 : Int64), .long (1 : Int64), .long (Int32.toInt64 l3)], i_S X q28.2)) rfl ?_
    obtain ⟨q30, hq30, h⟩ := i_bdE h
    refine i_rcall (k := 175) (as := [.long (Int32.toInt64 l3), .long (1 : Int64), .long (6 : Int64)]) (cf1 := (16, [some (.ref 50), some (.int l1), some (.int l2), some (.int l3), none, none, none], [], i_S X q28.2)) (cf' := (16, [some (.ref 50), some (.int l1), some (.int l2), some (.int l3), none, none, none], [.int q30.1], i_S X q30.2)) rfl (ok_r_within (by omega) hq30) rfl ?_
    by_cases c31 : q30.1 = (0 : Int32)
    · replace h := (if_pos c31).symm.trans h
      refine i_rbT (c := q30.1 = (0 : Int32)) (t := 19) (n := 21) rfl c31 ?_
      refine i_rs 1 (cf' := (20, [some (.ref 50), some (.int l1), some (.int l2), some (.int l3), none, none, none], [.int (-1 : Int32)], i_S X q30.2)) rfl ?_
      obtain rfl := Option.some.inj h
      exact i_rret rfl rfl
    · replace h := (if_neg c31).symm.trans h
      refine i_rbF (c := q30.1 = (0 : Int32)) (t := 19) (n := 21) rfl c31 ?_
      refine i_rs 3 (cf' := (26, [some (.ref 50), some (.int l1), some (.int l2), some (.int l3), none, none, none], [.int l1, .ref 70], i_S X q30.2)) rfl ?_
      obtain ⟨g32, h⟩ := i_gE h
      refine i_riald (n := 6) (cf' := (27, [some (.ref 50), some (.int l1), some (.int l2), some (.int l3), none, none, none], [.int (q30.2.1 70 (Int32.toNatClampNeg l1))], i_S X q30.2)) rfl rfl (by decide) g32 rfl ?_
      by_cases c33 : (q30.2.1 70 (Int32.toNatClampNeg l1)) < (0 : Int32)
      · replace h := (if_pos c33).symm.trans h
        refine i_rbT (c := (q30.2.1 70 (Int32.toNatClampNeg l1)) < (0 : Int32)) (t := 44) (n := 30) rfl c33 ?_
        refine i_fg (lv' := [some (.ref 50), some (.int l1), some (.int l2), some (.int l3), none, none, none]) (And.intro rfl (And.intro rfl (And.intro rfl (And.intro rfl True.intro)))) ?_
        exact ok_r_bells_B44 (by omega) h
      · replace h := (if_neg c33).symm.trans h
        refine i_rbF (c := (q30.2.1 70 (Int32.toNatClampNeg l1)) < (0 : Int32)) (t := 44) (n := 30) rfl c33 ?_
        refine i_rs 3 (cf' := (35, [some (.ref 50), some (.int l1), some (.int l2), some (.int l3), none, none, none], [.int l1, .ref 70], i_S X q30.2)) rfl ?_
        refine i_riald (n := 6) (cf' := (36, [some (.ref 50), some (.int l1), some (.int l2), some (.int l3), none, none, none], [.int (q30.2.1 70 (Int32.toNatClampNeg l1))], i_S X q30.2)) rfl rfl (by decide) g32 rfl ?_
        refine i_rs 1 (cf' := (38, [some (.ref 50), some (.int l1), some (.int l2), some (.int l3), none, none, none], [.int (50 : Int32), .int (q30.2.1 70 (Int32.toNatClampNeg l1))], i_S X q30.2)) rfl ?_
        by_cases c34 : (q30.2.1 70 (Int32.toNatClampNeg l1)) = (50 : Int32)
        · replace h := (if_pos c34).symm.trans h
          refine i_rbT (c := (q30.2.1 70 (Int32.toNatClampNeg l1)) = (50 : Int32)) (t := 44) (n := 41) rfl c34 ?_
          refine i_fg (lv' := [some (.ref 50), some (.int l1), some (.int l2), some (.int l3), none, none, none]) (And.intro rfl (And.intro rfl (And.intro rfl (And.intro rfl True.intro)))) ?_
          exact ok_r_bells_B44 (by omega) h
        · replace h := (if_neg c34).symm.trans h
          refine i_rbF (c := (q30.2.1 70 (Int32.toNatClampNeg l1)) = (50 : Int32)) (t := 44) (n := 41) rfl c34 ?_
          refine i_rs 1 (cf' := (43, [some (.ref 50), some (.int l1), some (.int l2), some (.int l3), none, none, none], [.int (-12 : Int32)], i_S X q30.2)) rfl ?_
          obtain rfl := Option.some.inj h
          exact i_rret rfl rfl
def b_Buried_has (l1 : Int32) (M : I_M) : Option (Int32 × I_M) :=
  (if l1 < (0 : Int32) then
      some ((0 : Int32), M)
    else
      (if l1 < (M.1 13 6) then
        some ((1 : Int32), M)
      else
        some ((0 : Int32), M)))
theorem ok_b_Buried_has {X : Nat × (Nat → Int32)} {d : Nat} {l1 : Int32} {M : I_M} {r : (Int32 × I_M)} (hd : 1 ≤ d) (h : b_Buried_has l1 M = some r) : I_Ex d 30 [.ref 13, .int l1] (i_S X M) (some (.int r.1)) (i_S X r.2) := by
  obtain ⟨d, rfl⟩ : ∃ d1, d = d1 + 1 := ⟨d - 1, by omega⟩
  unfold b_Buried_has at h
  refine i_ex (e := i_r30) (lv := [some (.ref 13), some (.int l1)]) rfl (Nat.le_of_ble_eq_true rfl) rfl ?_
  show I_RnE (I_Ex d) i_c30 (0, [some (.ref 13), some (.int l1)], [], i_S X M) _ _
  refine i_rs 1 (cf' := (1, [some (.ref 13), some (.int l1)], [.int l1], i_S X M)) rfl ?_
  by_cases c1 : l1 < (0 : Int32)
  · replace h := (if_pos c1).symm.trans h
    refine i_rbT (c := l1 < (0 : Int32)) (t := 16) (n := 4) rfl c1 ?_
    refine i_rs 1 (cf' := (17, [some (.ref 13), some (.int l1)], [.int (0 : Int32)], i_S X M)) rfl ?_
    obtain rfl := Option.some.inj h
    exact i_rretZ rfl (Or.inl rfl) rfl
  · replace h := (if_neg c1).symm.trans h
    refine i_rbF (c := l1 < (0 : Int32)) (t := 16) (n := 4) rfl c1 ?_
    refine i_rs 3 (cf' := (9, [some (.ref 13), some (.int l1)], [.int (M.1 13 6), .int l1], i_S X M)) rfl ?_
    by_cases c2 : l1 < (M.1 13 6)
    · replace h := (if_pos c2).symm.trans h
      refine i_rbT (c := l1 < (M.1 13 6)) (t := 12) (n := 16) rfl c2 ?_
      refine i_rs 2 (cf' := (17, [some (.ref 13), some (.int l1)], [.int (1 : Int32)], i_S X M)) rfl ?_
      obtain rfl := Option.some.inj h
      exact i_rretZ rfl (Or.inr rfl) rfl
    · replace h := (if_neg c2).symm.trans h
      refine i_rbF (c := l1 < (M.1 13 6)) (t := 12) (n := 16) rfl c2 ?_
      refine i_rs 1 (cf' := (17, [some (.ref 13), some (.int l1)], [.int (0 : Int32)], i_S X M)) rfl ?_
      obtain rfl := Option.some.inj h
      exact i_rretZ rfl (Or.inl rfl) rfl
def b_isMendable (l1 : Int32) (l2 : Int32) (M : I_M) : Option (Int32 × I_M) :=
  (if l2 = (0 : Int32) then
      Option.bind (b_Land_has l1 M) (fun q2 => i_zo q2.1 (some (q2.1, q2.2)))
    else
      (if l2 = (1 : Int32) then
        Option.bind (b_Land_has l1 M) (fun q5 => i_zo q5.1 (some (q5.1, q5.2)))
      else
        (if l2 = (2 : Int32) then
          Option.bind (b_Buried_has l1 M) (fun q8 => i_zo q8.1 (some (q8.1, q8.2)))
        else
          (if l2 = (3 : Int32) then
            (if l1 = (0 : Int32) then
              some ((1 : Int32), M)
            else
              some ((0 : Int32), M))
          else
            (if l2 = (4 : Int32) then
              (if l1 = (0 : Int32) then
                some ((1 : Int32), M)
              else
                some ((0 : Int32), M))
            else
              (if l2 = (5 : Int32) then
                (if l1 = (0 : Int32) then
                  some ((1 : Int32), M)
                else
                  some ((0 : Int32), M))
              else
                (if l2 = (6 : Int32) then
                  (if l1 = (0 : Int32) then
                    some ((1 : Int32), M)
                  else
                    some ((0 : Int32), M))
                else
                  some ((0 : Int32), M))))))))
theorem ok_b_isMendable {X : Nat × (Nat → Int32)} {d : Nat} {l1 : Int32} {l2 : Int32} {M : I_M} {r : (Int32 × I_M)} (hd : 3 ≤ d) (h : b_isMendable l1 l2 M = some r) : I_Ex d 29 [.ref 0, .int l1, .int l2] (i_S X M) (some (.int r.1)) (i_S X r.2) := by
  obtain ⟨d, rfl⟩ : ∃ d1, d = d1 + 1 := ⟨d - 1, by omega⟩
  unfold b_isMendable at h
  refine i_ex (e := i_r29) (lv := [some (.ref 0), some (.int l1), some (.int l2)]) rfl (Nat.le_of_ble_eq_true rfl) rfl ?_
  show I_RnE (I_Ex d) i_c29 (0, [some (.ref 0), some (.int l1), some (.int l2)], [], i_S X M) _ _
  refine i_rs 1 (cf' := (1, [some (.ref 0), some (.int l1), some (.int l2)], [.int l2], i_S X M)) rfl ?_
  refine i_stp1 (cf' := (i_sw l2 72 [(0, 44), (1, 44), (2, 53), (3, 62), (4, 62), (5, 62), (6, 62)], [some (.ref 0), some (.int l1), some (.int l2)], [], i_S X M)) rfl ?_
  by_cases c1 : l2 = (0 : Int32)
  · replace h := (if_pos c1).symm.trans h
    refine i_rswT c1 ?_
    refine i_rs 3 (cf' := (49, [some (.ref 0), some (.int l1), some (.int l2)], [.int l1, .ref 1], i_S X M)) rfl ?_
    obtain ⟨q2, hq2, h⟩ := i_bdE h
    refine i_rcall (k := 20) (as := [.ref 1, .int l1]) (cf1 := (52, [some (.ref 0), some (.int l1), some (.int l2)], [], i_S X M)) (cf' := (52, [some (.ref 0), some (.int l1), some (.int l2)], [.int q2.1], i_S X q2.2)) rfl (ok_b_Land_has (by omega) hq2) rfl ?_
    obtain ⟨z3, h⟩ := i_zoE h
    obtain rfl := Option.some.inj h
    exact i_rretZ rfl z3 rfl
  · replace h := (if_neg c1).symm.trans h
    refine i_rswF c1 ?_
    by_cases c4 : l2 = (1 : Int32)
    · replace h := (if_pos c4).symm.trans h
      refine i_rswT c4 ?_
      refine i_rs 3 (cf' := (49, [some (.ref 0), some (.int l1), some (.int l2)], [.int l1, .ref 1], i_S X M)) rfl ?_
      obtain ⟨q5, hq5, h⟩ := i_bdE h
      refine i_rcall (k := 20) (as := [.ref 1, .int l1]) (cf1 := (52, [some (.ref 0), some (.int l1), some (.int l2)], [], i_S X M)) (cf' := (52, [some (.ref 0), some (.int l1), some (.int l2)], [.int q5.1], i_S X q5.2)) rfl (ok_b_Land_has (by omega) hq5) rfl ?_
      obtain ⟨z6, h⟩ := i_zoE h
      obtain rfl := Option.some.inj h
      exact i_rretZ rfl z6 rfl
    · replace h := (if_neg c4).symm.trans h
      refine i_rswF c4 ?_
      by_cases c7 : l2 = (2 : Int32)
      · replace h := (if_pos c7).symm.trans h
        refine i_rswT c7 ?_
        refine i_rs 3 (cf' := (58, [some (.ref 0), some (.int l1), some (.int l2)], [.int l1, .ref 13], i_S X M)) rfl ?_
        obtain ⟨q8, hq8, h⟩ := i_bdE h
        refine i_rcall (k := 30) (as := [.ref 13, .int l1]) (cf1 := (61, [some (.ref 0), some (.int l1), some (.int l2)], [], i_S X M)) (cf' := (61, [some (.ref 0), some (.int l1), some (.int l2)], [.int q8.1], i_S X q8.2)) rfl (ok_b_Buried_has (by omega) hq8) rfl ?_
        obtain ⟨z9, h⟩ := i_zoE h
        obtain rfl := Option.some.inj h
        exact i_rretZ rfl z9 rfl
      · replace h := (if_neg c7).symm.trans h
        refine i_rswF c7 ?_
        by_cases c10 : l2 = (3 : Int32)
        · replace h := (if_pos c10).symm.trans h
          refine i_rswT c10 ?_
          refine i_rs 1 (cf' := (63, [some (.ref 0), some (.int l1), some (.int l2)], [.int l1], i_S X M)) rfl ?_
          by_cases c11 : l1 = (0 : Int32)
          · replace h := (if_pos c11).symm.trans h
            refine i_rbT (c := l1 = (0 : Int32)) (t := 66) (n := 70) rfl c11 ?_
            refine i_rs 2 (cf' := (71, [some (.ref 0), some (.int l1), some (.int l2)], [.int (1 : Int32)], i_S X M)) rfl ?_
            obtain rfl := Option.some.inj h
            exact i_rretZ rfl (Or.inr rfl) rfl
          · replace h := (if_neg c11).symm.trans h
            refine i_rbF (c := l1 = (0 : Int32)) (t := 66) (n := 70) rfl c11 ?_
            refine i_rs 1 (cf' := (71, [some (.ref 0), some (.int l1), some (.int l2)], [.int (0 : Int32)], i_S X M)) rfl ?_
            obtain rfl := Option.some.inj h
            exact i_rretZ rfl (Or.inl rfl) rfl
        · replace h := (if_neg c10).symm.trans h
          refine i_rswF c10 ?_
          by_cases c12 : l2 = (4 : Int32)
          · replace h := (if_pos c12).symm.trans h
            refine i_rswT c12 ?_
            refine i_rs 1 (cf' := (63, [some (.ref 0), some (.int l1), some (.int l2)], [.int l1], i_S X M)) rfl ?_
            by_cases c13 : l1 = (0 : Int32)
            · replace h := (if_pos c13).symm.trans h
              refine i_rbT (c := l1 = (0 : Int32)) (t := 66) (n := 70) rfl c13 ?_
              refine i_rs 2 (cf' := (71, [some (.ref 0), some (.int l1), some (.int l2)], [.int (1 : Int32)], i_S X M)) rfl ?_
              obtain rfl := Option.some.inj h
              exact i_rretZ rfl (Or.inr rfl) rfl
            · replace h := (if_neg c13).symm.trans h
              refine i_rbF (c := l1 = (0 : Int32)) (t := 66) (n := 70) rfl c13 ?_
              refine i_rs 1 (cf' := (71, [some (.ref 0), some (.int l1), some (.int l2)], [.int (0 : Int32)], i_S X M)) rfl ?_
              obtain rfl := Option.some.inj h
              exact i_rretZ rfl (Or.inl rfl) rfl
          · replace h := (if_neg c12).symm.trans h
            refine i_rswF c12 ?_
            by_cases c14 : l2 = (5 : Int32)
            · replace h := (if_pos c14).symm.trans h
              refine i_rswT c14 ?_
              refine i_rs 1 (cf' := (63, [some (.ref 0), some (.int l1), some (.int l2)], [.int l1], i_S X M)) rfl ?_
              by_cases c15 : l1 = (0 : Int32)
              · replace h := (if_pos c15).symm.trans h
                refine i_rbT (c := l1 = (0 : Int32)) (t := 66) (n := 70) rfl c15 ?_
                refine i_rs 2 (cf' := (71, [some (.ref 0), some (.int l1), some (.int l2)], [.int (1 : Int32)], i_S X M)) rfl ?_
                obtain rfl := Option.some.inj h
                exact i_rretZ rfl (Or.inr rfl) rfl
              · replace h := (if_neg c15).symm.trans h
                refine i_rbF (c := l1 = (0 : Int32)) (t := 66) (n := 70) rfl c15 ?_
                refine i_rs 1 (cf' := (71, [some (.ref 0), some (.int l1), some (.int l2)], [.int (0 : Int32)], i_S X M)) rfl ?_
                obtain rfl := Option.some.inj h
                exact i_rretZ rfl (Or.inl rfl) rfl
            · replace h := (if_neg c14).symm.trans h
              refine i_rswF c14 ?_
              by_cases c16 : l2 = (6 : Int32)
              · replace h := (if_pos c16).symm.trans h
                refine i_rswT c16 ?_
                refine i_rs 1 (cf' := (63, [some (.ref 0), some (.int l1), some (.int l2)], [.int l1], i_S X M)) rfl ?_
                by_cases c17 : l1 = (0 : Int32)
                · replace h := (if_pos c17).symm.trans h
                  refine i_rbT (c := l1 = (0 : Int32)) (t := 66) (n := 70) rfl c17 ?_
                  refine i_rs 2 (cf' := (71, [some (.ref 0), some (.int l1), some (.int l2)], [.int (1 : Int32)], i_S X M)) rfl ?_
                  obtain rfl := Option.some.inj h
                  exact i_rretZ rfl (Or.inr rfl) rfl
                · replace h := (if_neg c17).symm.trans h
                  refine i_rbF (c := l1 = (0 : Int32)) (t := 66) (n := 70) rfl c17 ?_
                  refine i_rs 1 (cf' := (71, [some (.ref 0), some (.int l1), some (.int l2)], [.int (0 : Int32)], i_S X M)) rfl ?_
                  obtain rfl := Option.some.inj h
                  exact i_rretZ rfl (Or.inl rfl) rfl
              · replace h := (if_neg c16).symm.trans h
                refine i_rswF c16 ?_
                refine i_rs 1 (cf' := (73, [some (.ref 0), some (.int l1), some (.int l2)], [.int (0 : Int32)], i_S X M)) rfl ?_
                obtain rfl := Option.some.inj h
                exact i_rretZ rfl (Or.inl rfl) rfl
def b_valueOf (l1 : Int32) (l2 : Int32) (M : I_M) : Option (Int32 × I_M) :=
  (if l2 = (0 : Int32) then
      i_g l1 25 (some ((M.1 4 (Int32.toNatClampNeg l1)), M))
    else
      (if l2 = (1 : Int32) then
        i_g l1 25 (some ((M.1 5 (Int32.toNatClampNeg l1)), M))
      else
        (if l2 = (2 : Int32) then
          i_g l1 6 (some ((M.1 16 (Int32.toNatClampNeg l1)), M))
        else
          (if l2 = (3 : Int32) then
            some ((M.1 1 6), M)
          else
            (if l2 = (4 : Int32) then
              some ((M.1 1 7), M)
            else
              (if l2 = (5 : Int32) then
                some ((M.1 1 8), M)
              else
                some ((M.1 1 9), M)))))))
theorem ok_b_valueOf {X : Nat × (Nat → Int32)} {d : Nat} {l1 : Int32} {l2 : Int32} {M : I_M} {r : (Int32 × I_M)} (hd : 1 ≤ d) (h : b_valueOf l1 l2 M = some r) : I_Ex d 31 [.ref 0, .int l1, .int l2] (i_S X M) (some (.int r.1)) (i_S X r.2) := by
  obtain ⟨d, rfl⟩ : ∃ d1, d = d1 + 1 := ⟨d - 1, by omega⟩
  unfold b_valueOf at h
  refine i_ex (e := i_r31) (lv := [some (.ref 0), some (.int l1), some (.int l2)]) rfl (Nat.le_of_ble_eq_true rfl) rfl ?_
  show I_RnE (I_Ex d) i_c31 (0, [some (.ref 0), some (.int l1), some (.int l2)], [], i_S X M) _ _
  refine i_rs 1 (cf' := (1, [some (.ref 0), some (.int l1), some (.int l2)], [.int l2], i_S X M)) rfl ?_
  refine i_stp1 (cf' := (i_sw l2 94 [(0, 40), (1, 50), (2, 60), (3, 70), (4, 78), (5, 86)], [some (.ref 0), some (.int l1), some (.int l2)], [], i_S X M)) rfl ?_
  by_cases c1 : l2 = (0 : Int32)
  · replace h := (if_pos c1).symm.trans h
    refine i_rswT c1 ?_
    refine i_rs 4 (cf' := (48, [some (.ref 0), some (.int l1), some (.int l2)], [.int l1, .ref 4], i_S X M)) rfl ?_
    obtain ⟨g2, h⟩ := i_gE h
    refine i_riald (n := 25) (cf' := (49, [some (.ref 0), some (.int l1), some (.int l2)], [.int (M.1 4 (Int32.toNatClampNeg l1))], i_S X M)) rfl rfl (by decide) g2 rfl ?_
    obtain rfl := Option.some.inj h
    exact i_rret rfl rfl
  · replace h := (if_neg c1).symm.trans h
    refine i_rswF c1 ?_
    by_cases c3 : l2 = (1 : Int32)
    · replace h := (if_pos c3).symm.trans h
      refine i_rswT c3 ?_
      refine i_rs 4 (cf' := (58, [some (.ref 0), some (.int l1), some (.int l2)], [.int l1, .ref 5], i_S X M)) rfl ?_
      obtain ⟨g4, h⟩ := i_gE h
      refine i_riald (n := 25) (cf' := (59, [some (.ref 0), some (.int l1), some (.int l2)], [.int (M.1 5 (Int32.toNatClampNeg l1))], i_S X M)) rfl rfl (by decide) g4 rfl ?_
      obtain rfl := Option.some.inj h
      exact i_rret rfl rfl
    · replace h := (if_neg c3).symm.trans h
      refine i_rswF c3 ?_
      by_cases c5 : l2 = (2 : Int32)
      · replace h := (if_pos c5).symm.trans h
        refine i_rswT c5 ?_
        refine i_rs 4 (cf' := (68, [some (.ref 0), some (.int l1), some (.int l2)], [.int l1, .ref 16], i_S X M)) rfl ?_
        obtain ⟨g6, h⟩ := i_gE h
        refine i_riald (n := 6) (cf' := (69, [some (.ref 0), some (.int l1), some (.int l2)], [.int (M.1 16 (Int32.toNatClampNeg l1))], i_S X M)) rfl rfl (by decide) g6 rfl ?_
        obtain rfl := Option.some.inj h
        exact i_rret rfl rfl
      · replace h := (if_neg c5).symm.trans h
        refine i_rswF c5 ?_
        by_cases c7 : l2 = (3 : Int32)
        · replace h := (if_pos c7).symm.trans h
          refine i_rswT c7 ?_
          refine i_rs 3 (cf' := (77, [some (.ref 0), some (.int l1), some (.int l2)], [.int (M.1 1 6)], i_S X M)) rfl ?_
          obtain rfl := Option.some.inj h
          exact i_rret rfl rfl
        · replace h := (if_neg c7).symm.trans h
          refine i_rswF c7 ?_
          by_cases c8 : l2 = (4 : Int32)
          · replace h := (if_pos c8).symm.trans h
            refine i_rswT c8 ?_
            refine i_rs 3 (cf' := (85, [some (.ref 0), some (.int l1), some (.int l2)], [.int (M.1 1 7)], i_S X M)) rfl ?_
            obtain rfl := Option.some.inj h
            exact i_rret rfl rfl
          · replace h := (if_neg c8).symm.trans h
            refine i_rswF c8 ?_
            by_cases c9 : l2 = (5 : Int32)
            · replace h := (if_pos c9).symm.trans h
              refine i_rswT c9 ?_
              refine i_rs 3 (cf' := (93, [some (.ref 0), some (.int l1), some (.int l2)], [.int (M.1 1 8)], i_S X M)) rfl ?_
              obtain rfl := Option.some.inj h
              exact i_rret rfl rfl
            · replace h := (if_neg c9).symm.trans h
              refine i_rswF c9 ?_
              refine i_rs 3 (cf' := (101, [some (.ref 0), some (.int l1), some (.int l2)], [.int (M.1 1 9)], i_S X M)) rfl ?_
              obtain rfl := Option.some.inj h
              exact i_rret rfl rfl
def b_Changes_dropOldest (M : I_M) : Option I_M :=
  i_cg (1 : Int32) (0 : Int32) (39 : Int32) 40 40 (i_cg (1 : Int32) (0 : Int32) (39 : Int32) 40 40 (i_cg (1 : Int32) (0 : Int32) (39 : Int32) 40 40 (i_cg (1 : Int32) (0 : Int32) (39 : Int32) 40 40 (some (i_cI (i_cI (i_cI (i_cI (i_wI M 31 4 (39 : Int32)) 32 32 (1 : Int32) (0 : Int32) (39 : Int32)) 33 33 (1 : Int32) (0 : Int32) (39 : Int32)) 34 34 (1 : Int32) (0 : Int32) (39 : Int32)) 35 35 (1 : Int32) (0 : Int32) (39 : Int32))))))
theorem ok_b_Changes_dropOldest {X : Nat × (Nat → Int32)} {d : Nat} {M : I_M} {r : I_M} (hd : 1 ≤ d) (h : b_Changes_dropOldest M = some r) : I_Ex d 33 [.ref 31] (i_S X M) none (i_S X r) := by
  obtain ⟨d, rfl⟩ : ∃ d1, d = d1 + 1 := ⟨d - 1, by omega⟩
  unfold b_Changes_dropOldest at h
  refine i_ex (e := i_r33) (lv := [some (.ref 31)]) rfl (Nat.le_of_ble_eq_true rfl) rfl ?_
  show I_RnE (I_Ex d) i_c33 (0, [some (.ref 31)], [], i_S X M) _ _
  refine i_rs 11 (cf' := (20, [some (.ref 31)], [.int (39 : Int32), .int (0 : Int32), .ref 32, .int (1 : Int32), .ref 32], i_S X (i_wI M 31 4 (39 : Int32)))) rfl ?_
  obtain ⟨g1, h⟩ := i_cgE h
  refine i_rcpyI (n0 := 40) (n1 := 40) (cf' := (23, [some (.ref 31)], [], i_S X (i_cI (i_wI M 31 4 (39 : Int32)) 32 32 (1 : Int32) (0 : Int32) (39 : Int32)))) rfl rfl rfl g1 (by decide) rfl ?_
  refine i_rs 8 (cf' := (37, [some (.ref 31)], [.int (39 : Int32), .int (0 : Int32), .ref 33, .int (1 : Int32), .ref 33], i_S X (i_cI (i_wI M 31 4 (39 : Int32)) 32 32 (1 : Int32) (0 : Int32) (39 : Int32)))) rfl ?_
  obtain ⟨g2, h⟩ := i_cgE h
  refine i_rcpyI (n0 := 40) (n1 := 40) (cf' := (40, [some (.ref 31)], [], i_S X (i_cI (i_cI (i_wI M 31 4 (39 : Int32)) 32 32 (1 : Int32) (0 : Int32) (39 : Int32)) 33 33 (1 : Int32) (0 : Int32) (39 : Int32)))) rfl rfl rfl g2 (by decide) rfl ?_
  refine i_rs 8 (cf' := (54, [some (.ref 31)], [.int (39 : Int32), .int (0 : Int32), .ref 34, .int (1 : Int32), .ref 34], i_S X (i_cI (i_cI (i_wI M 31 4 (39 : Int32)) 32 32 (1 : Int32) (0 : Int32) (39 : Int32)) 33 33 (1 : Int32) (0 : Int32) (39 : Int32)))) rfl ?_
  obtain ⟨g3, h⟩ := i_cgE h
  refine i_rcpyI (n0 := 40) (n1 := 40) (cf' := (57, [some (.ref 31)], [], i_S X (i_cI (i_cI (i_cI (i_wI M 31 4 (39 : Int32)) 32 32 (1 : Int32) (0 : Int32) (39 : Int32)) 33 33 (1 : Int32) (0 : Int32) (39 : Int32)) 34 34 (1 : Int32) (0 : Int32) (39 : Int32)))) rfl rfl rfl g3 (by decide) rfl ?_
  refine i_rs 8 (cf' := (71, [some (.ref 31)], [.int (39 : Int32), .int (0 : Int32), .ref 35, .int (1 : Int32), .ref 35], i_S X (i_cI (i_cI (i_cI (i_wI M 31 4 (39 : Int32)) 32 32 (1 : Int32) (0 : Int32) (39 : Int32)) 33 33 (1 : Int32) (0 : Int32) (39 : Int32)) 34 34 (1 : Int32) (0 : Int32) (39 : Int32)))) rfl ?_
  obtain ⟨g4, h⟩ := i_cgE h
  refine i_rcpyI (n0 := 40) (n1 := 40) (cf' := (74, [some (.ref 31)], [], i_S X (i_cI (i_cI (i_cI (i_cI (i_wI M 31 4 (39 : Int32)) 32 32 (1 : Int32) (0 : Int32) (39 : Int32)) 33 33 (1 : Int32) (0 : Int32) (39 : Int32)) 34 34 (1 : Int32) (0 : Int32) (39 : Int32)) 35 35 (1 : Int32) (0 : Int32) (39 : Int32)))) rfl rfl rfl g4 (by decide) rfl ?_
  obtain rfl := Option.some.inj h
  exact i_rret rfl rfl
def b_Changes_add_B18 (l1 : Int32) (l2 : Int32) (l3 : Int32) (l4 : Int32) (M : I_M) : Option I_M :=
  i_g (M.1 31 4) 40 (some (i_wI (i_wI (i_wI (i_wI (i_wI M 32 (Int32.toNatClampNeg (M.1 31 4)) l1) 33 (Int32.toNatClampNeg (M.1 31 4)) l2) 34 (Int32.toNatClampNeg (M.1 31 4)) l3) 35 (Int32.toNatClampNeg (M.1 31 4)) l4) 31 4 ((M.1 31 4) + (1 : Int32))))
theorem ok_b_Changes_add_B18 {X : Nat × (Nat → Int32)} {d : Nat} {l1 : Int32} {l2 : Int32} {l3 : Int32} {l4 : Int32} {M : I_M} {r : I_M} (hd : 2 ≤ d + 1) (h : b_Changes_add_B18 l1 l2 l3 l4 M = some r) : I_RnE (I_Ex d) i_c32 (18, [some (.ref 31), some (.int l1), some (.int l2), some (.int l3), some (.int l4)], [], i_S X M) none (i_S X r) := by
  unfold b_Changes_add_B18 at h
  refine i_rs 5 (cf' := (27, [some (.ref 31), some (.int l1), some (.int l2), some (.int l3), some (.int l4)], [.int l1, .int (M.1 31 4), .ref 32], i_S X M)) rfl ?_
  obtain ⟨g1, h⟩ := i_gE h
  refine i_riast (n := 40) (cf' := (28, [some (.ref 31), some (.int l1), some (.int l2), some (.int l3), some (.int l4)], [], i_S X (i_wI M 32 (Int32.toNatClampNeg (M.1 31 4)) l1))) rfl rfl (Or.inl rfl) g1 rfl ?_
  refine i_rs 5 (cf' := (37, [some (.ref 31), some (.int l1), some (.int l2), some (.int l3), some (.int l4)], [.int l2, .int (M.1 31 4), .ref 33], i_S X (i_wI M 32 (Int32.toNatClampNeg (M.1 31 4)) l1))) rfl ?_
  refine i_riast (n := 40) (cf' := (38, [some (.ref 31), some (.int l1), some (.int l2), some (.int l3), some (.int l4)], [], i_S X (i_wI (i_wI M 32 (Int32.toNatClampNeg (M.1 31 4)) l1) 33 (Int32.toNatClampNeg (M.1 31 4)) l2))) rfl rfl (Or.inl rfl) g1 rfl ?_
  refine i_rs 5 (cf' := (47, [some (.ref 31), some (.int l1), some (.int l2), some (.int l3), some (.int l4)], [.int l3, .int (M.1 31 4), .ref 34], i_S X (i_wI (i_wI M 32 (Int32.toNatClampNeg (M.1 31 4)) l1) 33 (Int32.toNatClampNeg (M.1 31 4)) l2))) rfl ?_
  refine i_riast (n := 40) (cf' := (48, [some (.ref 31), some (.int l1), some (.int l2), some (.int l3), some (.int l4)], [], i_S X (i_wI (i_wI (i_wI M 32 (Int32.toNatClampNeg (M.1 31 4)) l1) 33 (Int32.toNatClampNeg (M.1 31 4)) l2) 34 (Int32.toNatClampNeg (M.1 31 4)) l3))) rfl rfl (Or.inl rfl) g1 rfl ?_
  refine i_rs 5 (cf' := (58, [some (.ref 31), some (.int l1), some (.int l2), some (.int l3), some (.int l4)], [.int l4, .int (M.1 31 4), .ref 35], i_S X (i_wI (i_wI (i_wI M 32 (Int32.toNatClampNeg (M.1 31 4)) l1) 33 (Int32.toNatClampNeg (M.1 31 4)) l2) 34 (Int32.toNatClampNeg (M.1 31 4)) l3))) rfl ?_
  refine i_riast (n := 40) (cf' := (59, [some (.ref 31), some (.int l1), some (.int l2), some (.int l3), some (.int l4)], [], i_S X (i_wI (i_wI (i_wI (i_wI M 32 (Int32.toNatClampNeg (M.1 31 4)) l1) 33 (Int32.toNatClampNeg (M.1 31 4)) l2) 34 (Int32.toNatClampNeg (M.1 31 4)) l3) 35 (Int32.toNatClampNeg (M.1 31 4)) l4))) rfl rfl (Or.inl rfl) g1 rfl ?_
  refine i_rs 6 (cf' := (69, [some (.ref 31), some (.int l1), some (.int l2), some (.int l3), some (.int l4)], [], i_S X (i_wI (i_wI (i_wI (i_wI (i_wI M 32 (Int32.toNatClampNeg (M.1 31 4)) l1) 33 (Int32.toNatClampNeg (M.1 31 4)) l2) 34 (Int32.toNatClampNeg (M.1 31 4)) l3) 35 (Int32.toNatClampNeg (M.1 31 4)) l4) 31 4 ((M.1 31 4) + (1 : Int32))))) rfl ?_
  obtain rfl := Option.some.inj h
  exact i_rret rfl rfl
def b_Changes_add (l1 : Int32) (l2 : Int32) (l3 : Int32) (l4 : Int32) (M : I_M) : Option I_M :=
  (if (M.1 31 4) < (40 : Int32) then
      b_Changes_add_B18 l1 l2 l3 l4 (i_wI M 31 5 (0 : Int32))
    else
      Option.bind (b_Changes_dropOldest (i_wI M 31 5 (0 : Int32))) (fun q3 => b_Changes_add_B18 l1 l2 l3 l4 q3))
theorem ok_b_Changes_add {X : Nat × (Nat → Int32)} {d : Nat} {l1 : Int32} {l2 : Int32} {l3 : Int32} {l4 : Int32} {M : I_M} {r : I_M} (hd : 2 ≤ d) (h : b_Changes_add l1 l2 l3 l4 M = some r) : I_Ex d 32 [.ref 31, .int l1, .int l2, .int l3, .int l4] (i_S X M) none (i_S X r) := by
  obtain ⟨d, rfl⟩ : ∃ d1, d = d1 + 1 := ⟨d - 1, by omega⟩
  unfold b_Changes_add at h
  refine i_ex (e := i_r32) (lv := [some (.ref 31), some (.int l1), some (.int l2), some (.int l3), some (.int l4)]) rfl (Nat.le_of_ble_eq_true rfl) rfl ?_
  show I_RnE (I_Ex d) i_c32 (0, [some (.ref 31), some (.int l1), some (.int l2), some (.int l3), some (.int l4)], [], i_S X M) _ _
  refine i_rs 6 (cf' := (11, [some (.ref 31), some (.int l1), some (.int l2), some (.int l3), some (.int l4)], [.int (40 : Int32), .int (M.1 31 4)], i_S X (i_wI M 31 5 (0 : Int32)))) rfl ?_
  by_cases c2 : (M.1 31 4) < (40 : Int32)
  · replace h := (if_pos c2).symm.trans h
    refine i_rbT (c := (M.1 31 4) < (40 : Int32)) (t := 18) (n := 14) rfl c2 ?_
    refine i_fg (lv' := [some (.ref 31), some (.int l1), some (.int l2), some (.int l3), some (.int l4)]) (And.intro rfl (And.intro rfl (And.intro rfl (And.intro rfl (And.intro rfl True.intro))))) ?_
    exact ok_b_Changes_add_B18 (by omega) h
  · replace h := (if_neg c2).symm.trans h
    refine i_rbF (c := (M.1 31 4) < (40 : Int32)) (t := 18) (n := 14) rfl c2 ?_
    refine i_rs 1 (cf' := (15, [some (.ref 31), some (.int l1), some (.int l2), some (.int l3), some (.int l4)], [.ref 31], i_S X (i_wI M 31 5 (0 : Int32)))) rfl ?_
    obtain ⟨q3, hq3, h⟩ := i_bdE h
    refine i_rcall (k := 33) (as := [.ref 31]) (cf1 := (18, [some (.ref 31), some (.int l1), some (.int l2), some (.int l3), some (.int l4)], [], i_S X (i_wI M 31 5 (0 : Int32)))) (cf' := (18, [some (.ref 31), some (.int l1), some (.int l2), some (.int l3), some (.int l4)], [], i_S X q3)) rfl (ok_b_Changes_dropOldest (by omega) hq3) rfl ?_
    refine i_fg (lv' := [some (.ref 31), some (.int l1), some (.int l2), some (.int l3), some (.int l4)]) (And.intro rfl (And.intro rfl (And.intro rfl (And.intro rfl (And.intro rfl True.intro))))) ?_
    exact ok_b_Changes_add_B18 (by omega) h
def b_setValue (l1 : Int32) (l2 : Int32) (l3 : Int32) (M : I_M) : Option I_M :=
  (if l2 = (0 : Int32) then
      i_g l1 25 (some (i_wI M 4 (Int32.toNatClampNeg l1) l3))
    else
      (if l2 = (1 : Int32) then
        i_g l1 25 (some (i_wI M 5 (Int32.toNatClampNeg l1) l3))
      else
        (if l2 = (2 : Int32) then
          i_g l1 6 (some (i_wI M 16 (Int32.toNatClampNeg l1) l3))
        else
          (if l2 = (3 : Int32) then
            some (i_wI M 1 6 l3)
          else
            (if l2 = (4 : Int32) then
              some (i_wI M 1 7 l3)
            else
              (if l2 = (5 : Int32) then
                some (i_wI M 1 8 l3)
              else
                some (i_wI M 1 9 l3)))))))
theorem ok_b_setValue {X : Nat × (Nat → Int32)} {d : Nat} {l1 : Int32} {l2 : Int32} {l3 : Int32} {M : I_M} {r : I_M} (hd : 1 ≤ d) (h : b_setValue l1 l2 l3 M = some r) : I_Ex d 34 [.ref 0, .int l1, .int l2, .int l3] (i_S X M) none (i_S X r) := by
  obtain ⟨d, rfl⟩ : ∃ d1, d = d1 + 1 := ⟨d - 1, by omega⟩
  unfold b_setValue at h
  refine i_ex (e := i_r34) (lv := [some (.ref 0), some (.int l1), some (.int l2), some (.int l3)]) rfl (Nat.le_of_ble_eq_true rfl) rfl ?_
  show I_RnE (I_Ex d) i_c34 (0, [some (.ref 0), some (.int l1), some (.int l2), some (.int l3)], [], i_S X M) _ _
  refine i_rs 1 (cf' := (1, [some (.ref 0), some (.int l1), some (.int l2), some (.int l3)], [.int l2], i_S X M)) rfl ?_
  refine i_stp1 (cf' := (i_sw l2 112 [(0, 40), (1, 53), (2, 66), (3, 79), (4, 90), (5, 101)], [some (.ref 0), some (.int l1), some (.int l2), some (.int l3)], [], i_S X M)) rfl ?_
  by_cases c1 : l2 = (0 : Int32)
  · replace h := (if_pos c1).symm.trans h
    refine i_rswT c1 ?_
    refine i_rs 5 (cf' := (49, [some (.ref 0), some (.int l1), some (.int l2), some (.int l3)], [.int l3, .int l1, .ref 4], i_S X M)) rfl ?_
    obtain ⟨g2, h⟩ := i_gE h
    refine i_riast (n := 25) (cf' := (50, [some (.ref 0), some (.int l1), some (.int l2), some (.int l3)], [], i_S X (i_wI M 4 (Int32.toNatClampNeg l1) l3))) rfl rfl (Or.inl rfl) g2 rfl ?_
    refine i_rs 1 (cf' := (120, [some (.ref 0), some (.int l1), some (.int l2), some (.int l3)], [], i_S X (i_wI M 4 (Int32.toNatClampNeg l1) l3))) rfl ?_
    obtain rfl := Option.some.inj h
    exact i_rret rfl rfl
  · replace h := (if_neg c1).symm.trans h
    refine i_rswF c1 ?_
    by_cases c3 : l2 = (1 : Int32)
    · replace h := (if_pos c3).symm.trans h
      refine i_rswT c3 ?_
      refine i_rs 5 (cf' := (62, [some (.ref 0), some (.int l1), some (.int l2), some (.int l3)], [.int l3, .int l1, .ref 5], i_S X M)) rfl ?_
      obtain ⟨g4, h⟩ := i_gE h
      refine i_riast (n := 25) (cf' := (63, [some (.ref 0), some (.int l1), some (.int l2), some (.int l3)], [], i_S X (i_wI M 5 (Int32.toNatClampNeg l1) l3))) rfl rfl (Or.inl rfl) g4 rfl ?_
      refine i_rs 1 (cf' := (120, [some (.ref 0), some (.int l1), some (.int l2), some (.int l3)], [], i_S X (i_wI M 5 (Int32.toNatClampNeg l1) l3))) rfl ?_
      obtain rfl := Option.some.inj h
      exact i_rret rfl rfl
    · replace h := (if_neg c3).symm.trans h
      refine i_rswF c3 ?_
      by_cases c5 : l2 = (2 : Int32)
      · replace h := (if_pos c5).symm.trans h
        refine i_rswT c5 ?_
        refine i_rs 5 (cf' := (75, [some (.ref 0), some (.int l1), some (.int l2), some (.int l3)], [.int l3, .int l1, .ref 16], i_S X M)) rfl ?_
        obtain ⟨g6, h⟩ := i_gE h
        refine i_riast (n := 6) (cf' := (76, [some (.ref 0), some (.int l1), some (.int l2), some (.int l3)], [], i_S X (i_wI M 16 (Int32.toNatClampNeg l1) l3))) rfl rfl (Or.inl rfl) g6 rfl ?_
        refine i_rs 1 (cf' := (120, [some (.ref 0), some (.int l1), some (.int l2), some (.int l3)], [], i_S X (i_wI M 16 (Int32.toNatClampNeg l1) l3))) rfl ?_
        obtain rfl := Option.some.inj h
        exact i_rret rfl rfl
      · replace h := (if_neg c5).symm.trans h
        refine i_rswF c5 ?_
        by_cases c7 : l2 = (3 : Int32)
        · replace h := (if_pos c7).symm.trans h
          refine i_rswT c7 ?_
          refine i_rs 5 (cf' := (120, [some (.ref 0), some (.int l1), some (.int l2), some (.int l3)], [], i_S X (i_wI M 1 6 l3))) rfl ?_
          obtain rfl := Option.some.inj h
          exact i_rret rfl rfl
        · replace h := (if_neg c7).symm.trans h
          refine i_rswF c7 ?_
          by_cases c8 : l2 = (4 : Int32)
          · replace h := (if_pos c8).symm.trans h
            refine i_rswT c8 ?_
            refine i_rs 5 (cf' := (120, [some (.ref 0), some (.int l1), some (.int l2), some (.int l3)], [], i_S X (i_wI M 1 7 l3))) rfl ?_
            obtain rfl := Option.some.inj h
            exact i_rret rfl rfl
          · replace h := (if_neg c8).symm.trans h
            refine i_rswF c8 ?_
            by_cases c9 : l2 = (5 : Int32)
            · replace h := (if_pos c9).symm.trans h
              refine i_rswT c9 ?_
              refine i_rs 5 (cf' := (120, [some (.ref 0), some (.int l1), some (.int l2), some (.int l3)], [], i_S X (i_wI M 1 8 l3))) rfl ?_
              obtain rfl := Option.some.inj h
              exact i_rret rfl rfl
            · replace h := (if_neg c9).symm.trans h
              refine i_rswF c9 ?_
              refine i_rs 4 (cf' := (120, [some (.ref 0), some (.int l1), some (.int l2), some (.int l3)], [], i_S X (i_wI M 1 9 l3))) rfl ?_
              obtain rfl := Option.some.inj h
              exact i_rret rfl rfl
def b_mend (l1 : Int32) (l2 : Int32) (l3 : Int32) (M : I_M) : Option (Int32 × I_M) :=
  Option.bind (b_isMendable l1 l2 M) (fun q1 => (if q1.1 = (0 : Int32) then
      some ((-1 : Int32), q1.2)
    else
      (if l3 < (0 : Int32) then
        some ((-1 : Int32), q1.2)
      else
        i_g l2 7 ((if (i_x101 (Int32.toNatClampNeg l2)) < l3 then
          some ((-1 : Int32), q1.2)
        else
          Option.bind (b_valueOf l1 l2 q1.2) (fun q6 => (if l3 = q6.1 then
            some (q6.1, q6.2)
          else
            Option.bind (b_Changes_add l1 l2 q6.1 l3 q6.2) (fun q8 => Option.bind (b_setValue l1 l2 l3 q8) (fun q9 => some (q6.1, q9))))))))))
theorem ok_b_mend {X : Nat × (Nat → Int32)} {d : Nat} {l1 : Int32} {l2 : Int32} {l3 : Int32} {M : I_M} {r : (Int32 × I_M)} (hd : 4 ≤ d) (h : b_mend l1 l2 l3 M = some r) : I_Ex d 28 [.ref 0, .int l1, .int l2, .int l3] (i_S X M) (some (.int r.1)) (i_S X r.2) := by
  obtain ⟨d, rfl⟩ : ∃ d1, d = d1 + 1 := ⟨d - 1, by omega⟩
  unfold b_mend at h
  refine i_ex (e := i_r28) (lv := [some (.ref 0), some (.int l1), some (.int l2), some (.int l3), none]) rfl (Nat.le_of_ble_eq_true rfl) rfl ?_
  show I_RnE (I_Ex d) i_c28 (0, [some (.ref 0), some (.int l1), some (.int l2), some (.int l3), none], [], i_S X M) _ _
  refine i_rs 3 (cf' := (3, [some (.ref 0), some (.int l1), some (.int l2), some (.int l3), none], [.int l2, .int l1, .ref 0], i_S X M)) rfl ?_
  obtain ⟨q1, hq1, h⟩ := i_bdE h
  refine i_rcall (k := 29) (as := [.ref 0, .int l1, .int l2]) (cf1 := (6, [some (.ref 0), some (.int l1), some (.int l2), some (.int l3), none], [], i_S X M)) (cf' := (6, [some (.ref 0), some (.int l1), some (.int l2), some (.int l3), none], [.int q1.1], i_S X q1.2)) rfl (ok_b_isMendable (by omega) hq1) rfl ?_
  by_cases c2 : q1.1 = (0 : Int32)
  · replace h := (if_pos c2).symm.trans h
    refine i_rbT (c := q1.1 = (0 : Int32)) (t := 22) (n := 9) rfl c2 ?_
    refine i_rs 1 (cf' := (23, [some (.ref 0), some (.int l1), some (.int l2), some (.int l3), none], [.int (-1 : Int32)], i_S X q1.2)) rfl ?_
    obtain rfl := Option.some.inj h
    exact i_rret rfl rfl
  · replace h := (if_neg c2).symm.trans h
    refine i_rbF (c := q1.1 = (0 : Int32)) (t := 22) (n := 9) rfl c2 ?_
    refine i_rs 1 (cf' := (10, [some (.ref 0), some (.int l1), some (.int l2), some (.int l3), none], [.int l3], i_S X q1.2)) rfl ?_
    by_cases c3 : l3 < (0 : Int32)
    · replace h := (if_pos c3).symm.trans h
      refine i_rbT (c := l3 < (0 : Int32)) (t := 22) (n := 13) rfl c3 ?_
      refine i_rs 1 (cf' := (23, [some (.ref 0), some (.int l1), some (.int l2), some (.int l3), none], [.int (-1 : Int32)], i_S X q1.2)) rfl ?_
      obtain rfl := Option.some.inj h
      exact i_rret rfl rfl
    · replace h := (if_neg c3).symm.trans h
      refine i_rbF (c := l3 < (0 : Int32)) (t := 22) (n := 13) rfl c3 ?_
      refine i_rs 3 (cf' := (18, [some (.ref 0), some (.int l1), some (.int l2), some (.int l3), none], [.int l2, .ref 101, .int l3], i_S X q1.2)) rfl ?_
      obtain ⟨g4, h⟩ := i_gE h
      refine i_riald (n := 7) (cf' := (19, [some (.ref 0), some (.int l1), some (.int l2), some (.int l3), none], [.int (i_x101 (Int32.toNatClampNeg l2)), .int l3], i_S X q1.2)) rfl rfl (by decide) g4 rfl ?_
      by_cases c5 : (i_x101 (Int32.toNatClampNeg l2)) < l3
      · replace h := (if_pos c5).symm.trans h
        refine i_rbT (c := (i_x101 (Int32.toNatClampNeg l2)) < l3) (t := 22) (n := 24) rfl c5 ?_
        refine i_rs 1 (cf' := (23, [some (.ref 0), some (.int l1), some (.int l2), some (.int l3), none], [.int (-1 : Int32)], i_S X q1.2)) rfl ?_
        obtain rfl := Option.some.inj h
        exact i_rret rfl rfl
      · replace h := (if_neg c5).symm.trans h
        refine i_rbF (c := (i_x101 (Int32.toNatClampNeg l2)) < l3) (t := 22) (n := 24) rfl c5 ?_
        refine i_rs 3 (cf' := (27, [some (.ref 0), some (.int l1), some (.int l2), some (.int l3), none], [.int l2, .int l1, .ref 0], i_S X q1.2)) rfl ?_
        obtain ⟨q6, hq6, h⟩ := i_bdE h
        refine i_rcall (k := 31) (as := [.ref 0, .int l1, .int l2]) (cf1 := (30, [some (.ref 0), some (.int l1), some (.int l2), some (.int l3), none], [], i_S X q1.2)) (cf' := (30, [some (.ref 0), some (.int l1), some (.int l2), some (.int l3), none], [.int q6.1], i_S X q6.2)) rfl (ok_b_valueOf (by omega) hq6) rfl ?_
        refine i_rs 3 (cf' := (35, [some (.ref 0), some (.int l1), some (.int l2), some (.int l3), some (.int q6.1)], [.int q6.1, .int l3], i_S X q6.2)) rfl ?_
        by_cases c7 : l3 = q6.1
        · replace h := (if_pos c7).symm.trans h
          refine i_rbT (c := l3 = q6.1) (t := 57) (n := 38) rfl c7 ?_
          refine i_rs 1 (cf' := (59, [some (.ref 0), some (.int l1), some (.int l2), some (.int l3), some (.int q6.1)], [.int q6.1], i_S X q6.2)) rfl ?_
          obtain rfl := Option.some.inj h
          exact i_rret rfl rfl
        · replace h := (if_neg c7).symm.trans h
          refine i_rbF (c := l3 = q6.1) (t := 57) (n := 38) rfl c7 ?_
          refine i_rs 6 (cf' := (47, [some (.ref 0), some (.int l1), some (.int l2), some (.int l3), some (.int q6.1)], [.int l3, .int q6.1, .int l2, .int l1, .ref 31], i_S X q6.2)) rfl ?_
          obtain ⟨q8, hq8, h⟩ := i_bdE h
          refine i_rcall (k := 32) (as := [.ref 31, .int l1, .int l2, .int q6.1, .int l3]) (cf1 := (50, [some (.ref 0), some (.int l1), some (.int l2), some (.int l3), some (.int q6.1)], [], i_S X q6.2)) (cf' := (50, [some (.ref 0), some (.int l1), some (.int l2), some (.int l3), some (.int q6.1)], [], i_S X q8)) rfl (ok_b_Changes_add (by omega) hq8) rfl ?_
          refine i_rs 4 (cf' := (54, [some (.ref 0), some (.int l1), some (.int l2), some (.int l3), some (.int q6.1)], [.int l3, .int l2, .int l1, .ref 0], i_S X q8)) rfl ?_
          obtain ⟨q9, hq9, h⟩ := i_bdE h
          refine i_rcall (k := 34) (as := [.ref 0, .int l1, .int l2, .int l3]) (cf1 := (57, [some (.ref 0), some (.int l1), some (.int l2), some (.int l3), some (.int q6.1)], [], i_S X q8)) (cf' := (57, [some (.ref 0), some (.int l1), some (.int l2), some (.int l3), some (.int q6.1)], [], i_S X q9)) rfl (ok_b_setValue (by omega) hq9) rfl ?_
          refine i_rs 1 (cf' := (59, [some (.ref 0), some (.int l1), some (.int l2), some (.int l3), some (.int q6.1)], [.int q6.1], i_S X q9)) rfl ?_
          obtain rfl := Option.some.inj h
          exact i_rret rfl rfl
def r_becomes_B97 (l1 : Int32) (l2 : Int32) (l3 : Int32) (M : I_M) : Option (Int32 × I_M) :=
  i_g (M.1 50 5) 40 (i_g l1 60 (some (l3, (i_wI (i_wI (i_wI (i_wI (i_wI (i_wI M 52 (Int32.toNatClampNeg (M.1 50 5)) l1) 53 (Int32.toNatClampNeg (M.1 50 5)) l3) 54 (Int32.toNatClampNeg (M.1 50 5)) l2) 50 5 ((M.1 50 5) + (1 : Int32))) 50 4 ((M.1 50 5) + (1 : Int32))) 51 (Int32.toNatClampNeg l1) l2))))
theorem ok_r_becomes_B97 {X : Nat × (Nat → Int32)} {d : Nat} {l1 : Int32} {l2 : Int32} {l3 : Int32} {M : I_M} {r : (Int32 × I_M)} (hd : 1 ≤ d + 1) (h : r_becomes_B97 l1 l2 l3 M = some r) : I_RnE (I_Ex d) i_c184 (97, [some (.ref 50), some (.int l1), some (.int l2), some (.int l3), none], [], i_S X M) (some (.int r.1)) (i_S X r.2) := by
  unfold r_becomes_B97 at h
  refine i_rs 5 (cf' := (106, [some (.ref 50), some (.int l1), some (.int l2), some (.int l3), none], [.int l1, .int (M.1 50 5), .ref 52], i_S X M)) rfl ?_
  obtain ⟨g4, h⟩ := i_gE h
  refine i_riast (n := 40) (cf' := (107, [some (.ref 50), some (.int l1), some (.int l2), some (.int l3), none], [], i_S X (i_wI M 52 (Int32.toNatClampNeg (M.1 50 5)) l1))) rfl rfl (Or.inl rfl) g4 rfl ?_
  refine i_rs 5 (cf' := (116, [some (.ref 50), some (.int l1), some (.int l2), some (.int l3), none], [.int l3, .int (M.1 50 5), .ref 53], i_S X (i_wI M 52 (Int32.toNatClampNeg (M.1 50 5)) l1))) rfl ?_
  refine i_riast (n := 40) (cf' := (117, [some (.ref 50), some (.int l1), some (.int l2), some (.int l3), none], [], i_S X (i_wI (i_wI M 52 (Int32.toNatClampNeg (M.1 50 5)) l1) 53 (Int32.toNatClampNeg (M.1 50 5)) l3))) rfl rfl (Or.inl rfl) g4 rfl ?_
  refine i_rs 5 (cf' := (126, [some (.ref 50), some (.int l1), some (.int l2), some (.int l3), none], [.int l2, .int (M.1 50 5), .ref 54], i_S X (i_wI (i_wI M 52 (Int32.toNatClampNeg (M.1 50 5)) l1) 53 (Int32.toNatClampNeg (M.1 50 5)) l3))) rfl ?_
  refine i_riast (n := 40) (cf' := (127, [some (.ref 50), some (.int l1), some (.int l2), some (.int l3), none], [], i_S X (i_wI (i_wI (i_wI M 52 (Int32.toNatClampNeg (M.1 50 5)) l1) 53 (Int32.toNatClampNeg (M.1 50 5)) l3) 54 (Int32.toNatClampNeg (M.1 50 5)) l2))) rfl rfl (Or.inl rfl) g4 rfl ?_
  refine i_rs 14 (cf' := (151, [some (.ref 50), some (.int l1), some (.int l2), some (.int l3), none], [.int l2, .int l1, .ref 51], i_S X (i_wI (i_wI (i_wI (i_wI (i_wI M 52 (Int32.toNatClampNeg (M.1 50 5)) l1) 53 (Int32.toNatClampNeg (M.1 50 5)) l3) 54 (Int32.toNatClampNeg (M.1 50 5)) l2) 50 5 ((M.1 50 5) + (1 : Int32))) 50 4 ((M.1 50 5) + (1 : Int32))))) rfl ?_
  obtain ⟨g5, h⟩ := i_gE h
  refine i_riast (n := 60) (cf' := (152, [some (.ref 50), some (.int l1), some (.int l2), some (.int l3), none], [], i_S X (i_wI (i_wI (i_wI (i_wI (i_wI (i_wI M 52 (Int32.toNatClampNeg (M.1 50 5)) l1) 53 (Int32.toNatClampNeg (M.1 50 5)) l3) 54 (Int32.toNatClampNeg (M.1 50 5)) l2) 50 5 ((M.1 50 5) + (1 : Int32))) 50 4 ((M.1 50 5) + (1 : Int32))) 51 (Int32.toNatClampNeg l1) l2))) rfl rfl (Or.inl rfl) g5 rfl ?_
  refine i_rs 1 (cf' := (153, [some (.ref 50), some (.int l1), some (.int l2), some (.int l3), none], [.int l3], i_S X (i_wI (i_wI (i_wI (i_wI (i_wI (i_wI M 52 (Int32.toNatClampNeg (M.1 50 5)) l1) 53 (Int32.toNatClampNeg (M.1 50 5)) l3) 54 (Int32.toNatClampNeg (M.1 50 5)) l2) 50 5 ((M.1 50 5) + (1 : Int32))) 50 4 ((M.1 50 5) + (1 : Int32))) 51 (Int32.toNatClampNeg l1) l2))) rfl ?_
  obtain rfl := Option.some.inj h
  exact i_rret rfl rfl
def r_becomes_L26 (l1 : Int32) (l2 : Int32) (l3 : Int32) (k87 : I_M → Option (Int32 × I_M)) : Nat → Int32 → I_M → Option (Int32 × I_M)
  | 0, _, _ => none
  | n + 1, l4, M =>
    (if l4 < (40 : Int32) then
        i_g l4 40 (i_g (l4 - (1 : Int32)) 40 ((r_becomes_L26 l1 l2 l3 k87 n) (l4 + (1 : Int32)) (i_wI (i_wI (i_wI M 52 (Int32.toNatClampNeg (l4 - (1 : Int32))) (M.1 52 (Int32.toNatClampNeg l4))) 53 (Int32.toNatClampNeg (l4 - (1 : Int32))) (M.1 53 (Int32.toNatClampNeg l4))) 54 (Int32.toNatClampNeg (l4 - (1 : Int32))) (M.1 54 (Int32.toNatClampNeg l4)))))
      else
        k87  M)
theorem ok_r_becomes_L26 {X : Nat × (Nat → Int32)} {d : Nat} {l1 : Int32} {l2 : Int32} {l3 : Int32} {k87 : I_M → Option (Int32 × I_M)} (hd : 1 ≤ d + 1) (hk87 : ∀ (M : I_M) (r : (Int32 × I_M)), k87 M = some r → I_RnE (I_Ex d) i_c184 (87, [some (.ref 50), some (.int l1), some (.int l2), some (.int l3), none], [], i_S X M) (some (.int r.1)) (i_S X r.2)) : ∀ (n : Nat) (l4 : Int32) (M : I_M) (r : (Int32 × I_M)), r_becomes_L26 l1 l2 l3 k87 n l4 M = some r → I_RnE (I_Ex d) i_c184 (26, [some (.ref 50), some (.int l1), some (.int l2), some (.int l3), some (.int l4)], [], i_S X M) (some (.int r.1)) (i_S X r.2) := by
  intro n
  induction n with
  | zero => intro _ M r h; cases h
  | succ n hself =>
    intro l4 M r h
    rw [r_becomes_L26] at h
    refine i_rs 2 (cf' := (30, [some (.ref 50), some (.int l1), some (.int l2), some (.int l3), some (.int l4)], [.int (40 : Int32), .int l4], i_S X M)) rfl ?_
    by_cases c1 : l4 < (40 : Int32)
    · replace h := (if_pos c1).symm.trans h
      refine i_rbT (c := l4 < (40 : Int32)) (t := 33) (n := 87) rfl c1 ?_
      refine i_rs 8 (cf' := (47, [some (.ref 50), some (.int l1), some (.int l2), some (.int l3), some (.int l4)], [.int l4, .ref 52, .int (l4 - (1 : Int32)), .ref 52], i_S X M)) rfl ?_
      obtain ⟨g2, h⟩ := i_gE h
      refine i_riald (n := 40) (cf' := (48, [some (.ref 50), some (.int l1), some (.int l2), some (.int l3), some (.int l4)], [.int (M.1 52 (Int32.toNatClampNeg l4)), .int (l4 - (1 : Int32)), .ref 52], i_S X M)) rfl rfl (by decide) g2 rfl ?_
      obtain ⟨g3, h⟩ := i_gE h
      refine i_riast (n := 40) (cf' := (49, [some (.ref 50), some (.int l1), some (.int l2), some (.int l3), some (.int l4)], [], i_S X (i_wI M 52 (Int32.toNatClampNeg (l4 - (1 : Int32))) (M.1 52 (Int32.toNatClampNeg l4))))) rfl rfl (Or.inl rfl) g3 rfl ?_
      refine i_rs 8 (cf' := (63, [some (.ref 50), some (.int l1), some (.int l2), some (.int l3), some (.int l4)], [.int l4, .ref 53, .int (l4 - (1 : Int32)), .ref 53], i_S X (i_wI M 52 (Int32.toNatClampNeg (l4 - (1 : Int32))) (M.1 52 (Int32.toNatClampNeg l4))))) rfl ?_
      refine i_riald (n := 40) (cf' := (64, [some (.ref 50), some (.int l1), some (.int l2), some (.int l3), some (.int l4)], [.int (M.1 53 (Int32.toNatClampNeg l4)), .int (l4 - (1 : Int32)), .ref 53], i_S X (i_wI M 52 (Int32.toNatClampNeg (l4 - (1 : Int32))) (M.1 52 (Int32.toNatClampNeg l4))))) rfl rfl (by decide) g2 rfl ?_
      refine i_riast (n := 40) (cf' := (65, [some (.ref 50), some (.int l1), some (.int l2), some (.int l3), some (.int l4)], [], i_S X (i_wI (i_wI M 52 (Int32.toNatClampNeg (l4 - (1 : Int32))) (M.1 52 (Int32.toNatClampNeg l4))) 53 (Int32.toNatClampNeg (l4 - (1 : Int32))) (M.1 53 (Int32.toNatClampNeg l4))))) rfl rfl (Or.inl rfl) g3 rfl ?_
      refine i_rs 8 (cf' := (79, [some (.ref 50), some (.int l1), some (.int l2), some (.int l3), some (.int l4)], [.int l4, .ref 54, .int (l4 - (1 : Int32)), .ref 54], i_S X (i_wI (i_wI M 52 (Int32.toNatClampNeg (l4 - (1 : Int32))) (M.1 52 (Int32.toNatClampNeg l4))) 53 (Int32.toNatClampNeg (l4 - (1 : Int32))) (M.1 53 (Int32.toNatClampNeg l4))))) rfl ?_
      refine i_riald (n := 40) (cf' := (80, [some (.ref 50), some (.int l1), some (.int l2), some (.int l3), some (.int l4)], [.int (M.1 54 (Int32.toNatClampNeg l4)), .int (l4 - (1 : Int32)), .ref 54], i_S X (i_wI (i_wI M 52 (Int32.toNatClampNeg (l4 - (1 : Int32))) (M.1 52 (Int32.toNatClampNeg l4))) 53 (Int32.toNatClampNeg (l4 - (1 : Int32))) (M.1 53 (Int32.toNatClampNeg l4))))) rfl rfl (by decide) g2 rfl ?_
      refine i_riast (n := 40) (cf' := (81, [some (.ref 50), some (.int l1), some (.int l2), some (.int l3), some (.int l4)], [], i_S X (i_wI (i_wI (i_wI M 52 (Int32.toNatClampNeg (l4 - (1 : Int32))) (M.1 52 (Int32.toNatClampNeg l4))) 53 (Int32.toNatClampNeg (l4 - (1 : Int32))) (M.1 53 (Int32.toNatClampNeg l4))) 54 (Int32.toNatClampNeg (l4 - (1 : Int32))) (M.1 54 (Int32.toNatClampNeg l4))))) rfl rfl (Or.inl rfl) g3 rfl ?_
      refine i_rs 2 (cf' := (26, [some (.ref 50), some (.int l1), some (.int l2), some (.int l3), some (.int (l4 + (1 : Int32)))], [], i_S X (i_wI (i_wI (i_wI M 52 (Int32.toNatClampNeg (l4 - (1 : Int32))) (M.1 52 (Int32.toNatClampNeg l4))) 53 (Int32.toNatClampNeg (l4 - (1 : Int32))) (M.1 53 (Int32.toNatClampNeg l4))) 54 (Int32.toNatClampNeg (l4 - (1 : Int32))) (M.1 54 (Int32.toNatClampNeg l4))))) rfl ?_
      refine i_fg (lv' := [some (.ref 50), some (.int l1), some (.int l2), some (.int l3), some (.int (l4 + (1 : Int32)))]) (And.intro rfl (And.intro rfl (And.intro rfl (And.intro rfl (And.intro rfl True.intro))))) ?_
      exact hself (l4 + (1 : Int32)) (i_wI (i_wI (i_wI M 52 (Int32.toNatClampNeg (l4 - (1 : Int32))) (M.1 52 (Int32.toNatClampNeg l4))) 53 (Int32.toNatClampNeg (l4 - (1 : Int32))) (M.1 53 (Int32.toNatClampNeg l4))) 54 (Int32.toNatClampNeg (l4 - (1 : Int32))) (M.1 54 (Int32.toNatClampNeg l4))) _ h
    · replace h := (if_neg c1).symm.trans h
      refine i_rbF (c := l4 < (40 : Int32)) (t := 33) (n := 87) rfl c1 ?_
      refine i_fg (lv' := [some (.ref 50), some (.int l1), some (.int l2), some (.int l3), none]) (And.intro rfl (And.intro rfl (And.intro rfl (And.intro rfl True.intro)))) ?_
      exact hk87  M _ h
def r_becomes (l1 : Int32) (l2 : Int32) (M : I_M) : Option (Int32 × I_M) :=
  i_g l1 60 ((if (M.1 51 (Int32.toNatClampNeg l1)) = l2 then
      some ((M.1 51 (Int32.toNatClampNeg l1)), M)
    else
      (if (M.1 50 5) = (40 : Int32) then
        r_becomes_L26 l1 l2 (M.1 51 (Int32.toNatClampNeg l1)) (fun M9 =>
            r_becomes_B97 l1 l2 (M.1 51 (Int32.toNatClampNeg l1)) (i_wI M9 50 5 ((M9.1 50 5) - (1 : Int32)))) i_F (1 : Int32) M
      else
        r_becomes_B97 l1 l2 (M.1 51 (Int32.toNatClampNeg l1)) M)))
theorem ok_r_becomes {X : Nat × (Nat → Int32)} {d : Nat} {l1 : Int32} {l2 : Int32} {M : I_M} {r : (Int32 × I_M)} (hd : 1 ≤ d) (h : r_becomes l1 l2 M = some r) : I_Ex d 184 [.ref 50, .int l1, .int l2] (i_S X M) (some (.int r.1)) (i_S X r.2) := by
  obtain ⟨d, rfl⟩ : ∃ d1, d = d1 + 1 := ⟨d - 1, by omega⟩
  unfold r_becomes at h
  refine i_ex (e := i_r184) (lv := [some (.ref 50), some (.int l1), some (.int l2), none, none]) rfl (Nat.le_of_ble_eq_true rfl) rfl ?_
  show I_RnE (I_Ex d) i_c184 (0, [some (.ref 50), some (.int l1), some (.int l2), none, none], [], i_S X M) _ _
  refine i_rs 3 (cf' := (5, [some (.ref 50), some (.int l1), some (.int l2), none, none], [.int l1, .ref 51], i_S X M)) rfl ?_
  obtain ⟨g6, h⟩ := i_gE h
  refine i_riald (n := 60) (cf' := (6, [some (.ref 50), some (.int l1), some (.int l2), none, none], [.int (M.1 51 (Int32.toNatClampNeg l1))], i_S X M)) rfl rfl (by decide) g6 rfl ?_
  refine i_rs 3 (cf' := (9, [some (.ref 50), some (.int l1), some (.int l2), some (.int (M.1 51 (Int32.toNatClampNeg l1))), none], [.int l2, .int (M.1 51 (Int32.toNatClampNeg l1))], i_S X M)) rfl ?_
  by_cases c7 : (M.1 51 (Int32.toNatClampNeg l1)) = l2
  · replace h := (if_pos c7).symm.trans h
    refine i_rbT (c := (M.1 51 (Int32.toNatClampNeg l1)) = l2) (t := 12) (n := 14) rfl c7 ?_
    refine i_rs 1 (cf' := (13, [some (.ref 50), some (.int l1), some (.int l2), some (.int (M.1 51 (Int32.toNatClampNeg l1))), none], [.int (M.1 51 (Int32.toNatClampNeg l1))], i_S X M)) rfl ?_
    obtain rfl := Option.some.inj h
    exact i_rret rfl rfl
  · replace h := (if_neg c7).symm.trans h
    refine i_rbF (c := (M.1 51 (Int32.toNatClampNeg l1)) = l2) (t := 12) (n := 14) rfl c7 ?_
    refine i_rs 3 (cf' := (20, [some (.ref 50), some (.int l1), some (.int l2), some (.int (M.1 51 (Int32.toNatClampNeg l1))), none], [.int (40 : Int32), .int (M.1 50 5)], i_S X M)) rfl ?_
    by_cases c8 : (M.1 50 5) = (40 : Int32)
    · replace h := (if_pos c8).symm.trans h
      refine i_rbT (c := (M.1 50 5) = (40 : Int32)) (t := 23) (n := 97) rfl c8 ?_
      refine i_rs 2 (cf' := (26, [some (.ref 50), some (.int l1), some (.int l2), some (.int (M.1 51 (Int32.toNatClampNeg l1))), some (.int (1 : Int32))], [], i_S X M)) rfl ?_
      refine i_fg (lv' := [some (.ref 50), some (.int l1), some (.int l2), some (.int (M.1 51 (Int32.toNatClampNeg l1))), some (.int (1 : Int32))]) (And.intro rfl (And.intro rfl (And.intro rfl (And.intro rfl (And.intro rfl True.intro))))) ?_
      refine ok_r_becomes_L26 (by omega) (fun M9 r h => ?_) i_F (1 : Int32) M _ h
      refine i_rs 6 (cf' := (97, [some (.ref 50), some (.int l1), some (.int l2), some (.int (M.1 51 (Int32.toNatClampNeg l1))), none], [], i_S X (i_wI M9 50 5 ((M9.1 50 5) - (1 : Int32))))) rfl ?_
      refine i_fg (lv' := [some (.ref 50), some (.int l1), some (.int l2), some (.int (M.1 51 (Int32.toNatClampNeg l1))), none]) (And.intro rfl (And.intro rfl (And.intro rfl (And.intro rfl True.intro)))) ?_
      exact ok_r_becomes_B97 (by omega) h
    · replace h := (if_neg c8).symm.trans h
      refine i_rbF (c := (M.1 50 5) = (40 : Int32)) (t := 23) (n := 97) rfl c8 ?_
      refine i_fg (lv' := [some (.ref 50), some (.int l1), some (.int l2), some (.int (M.1 51 (Int32.toNatClampNeg l1))), none]) (And.intro rfl (And.intro rfl (And.intro rfl (And.intro rfl True.intro)))) ?_
      exact ok_r_becomes_B97 (by omega) h
def r_isBell (l1 : Int32) (M : I_M) : Option (Int32 × I_M) :=
  Option.bind (r_within (Int32.toInt64 l1) (0 : Int64) (Int32.toInt64 ((M.1 50 8) - (1 : Int32))) M) (fun q1 => i_zo q1.1 (some (q1.1, q1.2)))
theorem ok_r_isBell {X : Nat × (Nat → Int32)} {d : Nat} {l1 : Int32} {M : I_M} {r : (Int32 × I_M)} (hd : 2 ≤ d) (h : r_isBell l1 M = some r) : I_Ex d 185 [.ref 50, .int l1] (i_S X M) (some (.int r.1)) (i_S X r.2) := by
  obtain ⟨d, rfl⟩ : ∃ d1, d = d1 + 1 := ⟨d - 1, by omega⟩
  unfold r_isBell at h
  refine i_ex (e := i_r185) (lv := [some (.ref 50), some (.int l1)]) rfl (Nat.le_of_ble_eq_true rfl) rfl ?_
  show I_RnE (I_Ex d) i_c185 (0, [some (.ref 50), some (.int l1)], [], i_S X M) _ _
  refine i_rs 8 (cf' := (10, [some (.ref 50), some (.int l1)], [.long (Int32.toInt64 ((M.1 50 8) - (1 : Int32))), .long (0 : Int64), .long (Int32.toInt64 l1)], i_S X M)) rfl ?_
  obtain ⟨q1, hq1, h⟩ := i_bdE h
  refine i_rcall (k := 175) (as := [.long (Int32.toInt64 l1), .long (0 : Int64), .long (Int32.toInt64 ((M.1 50 8) - (1 : Int32)))]) (cf1 := (13, [some (.ref 50), some (.int l1)], [], i_S X M)) (cf' := (13, [some (.ref 50), some (.int l1)], [.int q1.1], i_S X q1.2)) rfl (ok_r_within (by omega) hq1) rfl ?_
  obtain ⟨z2, h⟩ := i_zoE h
  obtain rfl := Option.some.inj h
  exact i_rretZ rfl z2 rfl
def r_isCell (l1 : Int32) (M : I_M) : Option (Int32 × I_M) :=
  Option.bind (r_cells M) (fun q1 => Option.bind (r_within (Int32.toInt64 l1) (0 : Int64) (Int32.toInt64 (q1.1 - (1 : Int32))) q1.2) (fun q2 => i_zo q2.1 (some (q2.1, q2.2))))
theorem ok_r_isCell {X : Nat × (Nat → Int32)} {d : Nat} {l1 : Int32} {M : I_M} {r : (Int32 × I_M)} (hd : 2 ≤ d) (h : r_isCell l1 M = some r) : I_Ex d 183 [.ref 50, .int l1] (i_S X M) (some (.int r.1)) (i_S X r.2) := by
  obtain ⟨d, rfl⟩ : ∃ d1, d = d1 + 1 := ⟨d - 1, by omega⟩
  unfold r_isCell at h
  refine i_ex (e := i_r183) (lv := [some (.ref 50), some (.int l1)]) rfl (Nat.le_of_ble_eq_true rfl) rfl ?_
  show I_RnE (I_Ex d) i_c183 (0, [some (.ref 50), some (.int l1)], [], i_S X M) _ _
  refine i_rs 4 (cf' := (4, [some (.ref 50), some (.int l1)], [.ref 50, .long (0 : Int64), .long (Int32.toInt64 l1)], i_S X M)) rfl ?_
  obtain ⟨q1, hq1, h⟩ := i_bdE h
  refine i_rcall (k := 178) (as := [.ref 50]) (cf1 := (7, [some (.ref 50), some (.int l1)], [.long (0 : Int64), .long (Int32.toInt64 l1)], i_S X M)) (cf' := (7, [some (.ref 50), some (.int l1)], [.int q1.1, .long (0 : Int64), .long (Int32.toInt64 l1)], i_S X q1.2)) rfl (ok_r_cells (by omega) hq1) rfl ?_
  refine i_rs 3 (cf' := (10, [some (.ref 50), some (.int l1)], [.long (Int32.toInt64 (q1.1 - (1 : Int32))), .long (0 : Int64), .long (Int32.toInt64 l1)], i_S X q1.2)) rfl ?_
  obtain ⟨q2, hq2, h⟩ := i_bdE h
  refine i_rcall (k := 175) (as := [.long (Int32.toInt64 l1), .long (0 : Int64), .long (Int32.toInt64 (q1.1 - (1 : Int32)))]) (cf1 := (13, [some (.ref 50), some (.int l1)], [], i_S X q1.2)) (cf' := (13, [some (.ref 50), some (.int l1)], [.int q2.1], i_S X q2.2)) rfl (ok_r_within (by omega) hq2) rfl ?_
  obtain ⟨z3, h⟩ := i_zoE h
  obtain rfl := Option.some.inj h
  exact i_rretZ rfl z3 rfl
def r_mend_B173 (l2 : Int32) (l3 : Int32) (s0 : Int64) (s1 : Int64) (s2 : Int64) (M : I_M) : Option (Int32 × I_M) :=
  Option.bind (r_within s0 s1 s2 M) (fun q1 => (if q1.1 = (0 : Int32) then
      some ((-1 : Int32), q1.2)
    else
      Option.bind (r_becomes (((56 : Int32) + l2) - (3 : Int32)) l3 q1.2) (fun q3 => some (q3.1, q3.2))))
theorem ok_r_mend_B173 {X : Nat × (Nat → Int32)} {d : Nat} {l2 : Int32} {l3 : Int32} {s0 : Int64} {s1 : Int64} {s2 : Int64} {M : I_M} {r : (Int32 × I_M)} (hd : 3 ≤ d + 1) (h : r_mend_B173 l2 l3 s0 s1 s2 M = some r) : I_RnE (I_Ex d) i_c182 (173, [some (.ref 50), none, some (.int l2), some (.int l3)], [.long s2, .long s1, .long s0], i_S X M) (some (.int r.1)) (i_S X r.2) := by
  unfold r_mend_B173 at h
  obtain ⟨q1, hq1, h⟩ := i_bdE h
  refine i_rcall (k := 175) (as := [.long s0, .long s1, .long s2]) (cf1 := (176, [some (.ref 50), none, some (.int l2), some (.int l3)], [], i_S X M)) (cf' := (176, [some (.ref 50), none, some (.int l2), some (.int l3)], [.int q1.1], i_S X q1.2)) rfl (ok_r_within (by omega) hq1) rfl ?_
  by_cases c2 : q1.1 = (0 : Int32)
  · replace h := (if_pos c2).symm.trans h
    refine i_rbT (c := q1.1 = (0 : Int32)) (t := 193) (n := 179) rfl c2 ?_
    refine i_rs 1 (cf' := (194, [some (.ref 50), none, some (.int l2), some (.int l3)], [.int (-1 : Int32)], i_S X q1.2)) rfl ?_
    obtain rfl := Option.some.inj h
    exact i_rret rfl rfl
  · replace h := (if_neg c2).symm.trans h
    refine i_rbF (c := q1.1 = (0 : Int32)) (t := 193) (n := 179) rfl c2 ?_
    refine i_rs 7 (cf' := (187, [some (.ref 50), none, some (.int l2), some (.int l3)], [.int l3, .int (((56 : Int32) + l2) - (3 : Int32)), .ref 50], i_S X q1.2)) rfl ?_
    obtain ⟨q3, hq3, h⟩ := i_bdE h
    refine i_rcall (k := 184) (as := [.ref 50, .int (((56 : Int32) + l2) - (3 : Int32)), .int l3]) (cf1 := (190, [some (.ref 50), none, some (.int l2), some (.int l3)], [], i_S X q1.2)) (cf' := (190, [some (.ref 50), none, some (.int l2), some (.int l3)], [.int q3.1], i_S X q3.2)) rfl (ok_r_becomes (by omega) hq3) rfl ?_
    refine i_rs 1 (cf' := (194, [some (.ref 50), none, some (.int l2), some (.int l3)], [.int q3.1], i_S X q3.2)) rfl ?_
    obtain rfl := Option.some.inj h
    exact i_rret rfl rfl
def r_mend_B143 (l1 : Int32) (l2 : Int32) (l3 : Int32) (M : I_M) : Option (Int32 × I_M) :=
  (if l1 = (0 : Int32) then
      (if l2 = (4 : Int32) then
        r_mend_B173 l2 l3 (Int32.toInt64 l3) (0 : Int64) (1 : Int64) M
      else
        (if l2 = (5 : Int32) then
          r_mend_B173 l2 l3 (Int32.toInt64 l3) (0 : Int64) (99 : Int64) M
        else
          r_mend_B173 l2 l3 (Int32.toInt64 l3) (0 : Int64) (9 : Int64) M))
    else
      some ((-1 : Int32), M))
theorem ok_r_mend_B143 {X : Nat × (Nat → Int32)} {d : Nat} {l1 : Int32} {l2 : Int32} {l3 : Int32} {M : I_M} {r : (Int32 × I_M)} (hd : 3 ≤ d + 1) (h : r_mend_B143 l1 l2 l3 M = some r) : I_RnE (I_Ex d) i_c182 (143, [some (.ref 50), some (.int l1), some (.int l2), some (.int l3)], [], i_S X M) (some (.int r.1)) (i_S X r.2) := by
  unfold r_mend_B143 at h
  refine i_rs 1 (cf' := (144, [some (.ref 50), some (.int l1), some (.int l2), some (.int l3)], [.int l1], i_S X M)) rfl ?_
  by_cases c4 : l1 = (0 : Int32)
  · replace h := (if_pos c4).symm.trans h
    refine i_rbT (c := l1 = (0 : Int32)) (t := 147) (n := 193) rfl c4 ?_
    refine i_rs 5 (cf' := (152, [some (.ref 50), some (.int l1), some (.int l2), some (.int l3)], [.int (4 : Int32), .int l2, .long (0 : Int64), .long (Int32.toInt64 l3)], i_S X M)) rfl ?_
    by_cases c5 : l2 = (4 : Int32)
    · replace h := (if_pos c5).symm.trans h
      refine i_rbT (c := l2 = (4 : Int32)) (t := 155) (n := 159) rfl c5 ?_
      refine i_rs 2 (cf' := (173, [some (.ref 50), some (.int l1), some (.int l2), some (.int l3)], [.long (1 : Int64), .long (0 : Int64), .long (Int32.toInt64 l3)], i_S X M)) rfl ?_
      refine i_fg (lv' := [some (.ref 50), none, some (.int l2), some (.int l3)]) (And.intro rfl (And.intro rfl (And.intro rfl True.intro))) ?_
      exact ok_r_mend_B173 (by omega) h
    · replace h := (if_neg c5).symm.trans h
      refine i_rbF (c := l2 = (4 : Int32)) (t := 155) (n := 159) rfl c5 ?_
      refine i_rs 2 (cf' := (161, [some (.ref 50), some (.int l1), some (.int l2), some (.int l3)], [.int (5 : Int32), .int l2, .long (0 : Int64), .long (Int32.toInt64 l3)], i_S X M)) rfl ?_
      by_cases c6 : l2 = (5 : Int32)
      · replace h := (if_pos c6).symm.trans h
        refine i_rbT (c := l2 = (5 : Int32)) (t := 164) (n := 170) rfl c6 ?_
        refine i_rs 2 (cf' := (173, [some (.ref 50), some (.int l1), some (.int l2), some (.int l3)], [.long (99 : Int64), .long (0 : Int64), .long (Int32.toInt64 l3)], i_S X M)) rfl ?_
        refine i_fg (lv' := [some (.ref 50), none, some (.int l2), some (.int l3)]) (And.intro rfl (And.intro rfl (And.intro rfl True.intro))) ?_
        exact ok_r_mend_B173 (by omega) h
      · replace h := (if_neg c6).symm.trans h
        refine i_rbF (c := l2 = (5 : Int32)) (t := 164) (n := 170) rfl c6 ?_
        refine i_rs 1 (cf' := (173, [some (.ref 50), some (.int l1), some (.int l2), some (.int l3)], [.long (9 : Int64), .long (0 : Int64), .long (Int32.toInt64 l3)], i_S X M)) rfl ?_
        refine i_fg (lv' := [some (.ref 50), none, some (.int l2), some (.int l3)]) (And.intro rfl (And.intro rfl (And.intro rfl True.intro))) ?_
        exact ok_r_mend_B173 (by omega) h
  · replace h := (if_neg c4).symm.trans h
    refine i_rbF (c := l1 = (0 : Int32)) (t := 147) (n := 193) rfl c4 ?_
    refine i_rs 1 (cf' := (194, [some (.ref 50), some (.int l1), some (.int l2), some (.int l3)], [.int (-1 : Int32)], i_S X M)) rfl ?_
    obtain rfl := Option.some.inj h
    exact i_rret rfl rfl
def r_mend (l1 : Int32) (l2 : Int32) (l3 : Int32) (M : I_M) : Option (Int32 × I_M) :=
  (if l2 = (0 : Int32) then
      Option.bind (r_isCell l1 M) (fun q8 => (if q8.1 = (0 : Int32) then
        some ((-1 : Int32), q8.2)
      else
        Option.bind (r_within (Int32.toInt64 l3) (0 : Int64) (9 : Int64) q8.2) (fun q10 => (if q10.1 = (0 : Int32) then
          some ((-1 : Int32), q10.2)
        else
          Option.bind (r_becomes l1 l3 q10.2) (fun q12 => some (q12.1, q12.2))))))
    else
      (if l2 = (1 : Int32) then
        Option.bind (r_isCell l1 M) (fun q14 => (if q14.1 = (0 : Int32) then
          some ((-1 : Int32), q14.2)
        else
          Option.bind (r_within (Int32.toInt64 l3) (0 : Int64) (99 : Int64) q14.2) (fun q16 => (if q16.1 = (0 : Int32) then
            some ((-1 : Int32), q16.2)
          else
            Option.bind (r_becomes ((25 : Int32) + l1) l3 q16.2) (fun q18 => some (q18.1, q18.2))))))
      else
        (if l2 = (2 : Int32) then
          Option.bind (r_isBell l1 M) (fun q20 => (if q20.1 = (0 : Int32) then
            some ((-1 : Int32), q20.2)
          else
            Option.bind (r_within (Int32.toInt64 l3) (0 : Int64) (9 : Int64) q20.2) (fun q22 => (if q22.1 = (0 : Int32) then
              some ((-1 : Int32), q22.2)
            else
              Option.bind (r_becomes ((50 : Int32) + l1) l3 q22.2) (fun q24 => some (q24.1, q24.2))))))
        else
          (if l2 = (3 : Int32) then
            r_mend_B143 l1 l2 l3 M
          else
            (if l2 = (4 : Int32) then
              r_mend_B143 l1 l2 l3 M
            else
              (if l2 = (5 : Int32) then
                r_mend_B143 l1 l2 l3 M
              else
                (if l2 = (6 : Int32) then
                  r_mend_B143 l1 l2 l3 M
                else
                  some ((-1 : Int32), M))))))))
theorem ok_r_mend {X : Nat × (Nat → Int32)} {d : Nat} {l1 : Int32} {l2 : Int32} {l3 : Int32} {M : I_M} {r : (Int32 × I_M)} (hd : 3 ≤ d) (h : r_mend l1 l2 l3 M = some r) : I_Ex d 182 [.ref 50, .int l1, .int l2, .int l3] (i_S X M) (some (.int r.1)) (i_S X r.2) := by
  obtain ⟨d, rfl⟩ : ∃ d1, d = d1 + 1 := ⟨d - 1, by omega⟩
  unfold r_mend at h
  refine i_ex (e := i_r182) (lv := [some (.ref 50), some (.int l1), some (.int l2), some (.int l3)]) rfl (Nat.le_of_ble_eq_true rfl) rfl ?_
  show I_RnE (I_Ex d) i_c182 (0, [some (.ref 50), some (.int l1), some (.int l2), some (.int l3)], [], i_S X M) _ _
  refine i_rs 1 (cf' := (1, [some (.ref 50), some (.int l1), some (.int l2), some (.int l3)], [.int l2], i_S X M)) rfl ?_
  refine i_stp1 (cf' := (i_sw l2 195 [(0, 44), (1, 75), (2, 109), (3, 143), (4, 143), (5, 143), (6, 143)], [some (.ref 50), some (.int l1), some (.int l2), some (.int l3)], [], i_S X M)) rfl ?_
  by_cases c7 : l2 = (0 : Int32)
  · replace h := (if_pos c7).symm.trans h
    refine i_rswT c7 ?_
    refine i_rs 2 (cf' := (46, [some (.ref 50), some (.int l1), some (.int l2), some (.int l3)], [.int l1, .ref 50], i_S X M)) rfl ?_
    obtain ⟨q8, hq8, h⟩ := i_bdE h
    refine i_rcall (k := 183) (as := [.ref 50, .int l1]) (cf1 := (49, [some (.ref 50), some (.int l1), some (.int l2), some (.int l3)], [], i_S X M)) (cf' := (49, [some (.ref 50), some (.int l1), some (.int l2), some (.int l3)], [.int q8.1], i_S X q8.2)) rfl (ok_r_isCell (by omega) hq8) rfl ?_
    by_cases c9 : q8.1 = (0 : Int32)
    · replace h := (if_pos c9).symm.trans h
      refine i_rbT (c := q8.1 = (0 : Int32)) (t := 73) (n := 52) rfl c9 ?_
      refine i_rs 1 (cf' := (74, [some (.ref 50), some (.int l1), some (.int l2), some (.int l3)], [.int (-1 : Int32)], i_S X q8.2)) rfl ?_
      obtain rfl := Option.some.inj h
      exact i_rret rfl rfl
    · replace h := (if_neg c9).symm.trans h
      refine i_rbF (c := q8.1 = (0 : Int32)) (t := 73) (n := 52) rfl c9 ?_
      refine i_rs 4 (cf' := (58, [some (.ref 50), some (.int l1), some (.int l2), some (.int l3)], [.long (9 : Int64), .long (0 : Int64), .long (Int32.toInt64 l3)], i_S X q8.2)) rfl ?_
      obtain ⟨q10, hq10, h⟩ := i_bdE h
      refine i_rcall (k := 175) (as := [.long (Int32.toInt64 l3), .long (0 : Int64), .long (9 : Int64)]) (cf1 := (61, [some (.ref 50), some (.int l1), some (.int l2), some (.int l3)], [], i_S X q8.2)) (cf' := (61, [some (.ref 50), some (.int l1), some (.int l2), some (.int l3)], [.int q10.1], i_S X q10.2)) rfl (ok_r_within (by omega) hq10) rfl ?_
      by_cases c11 : q10.1 = (0 : Int32)
      · replace h := (if_pos c11).symm.trans h
        refine i_rbT (c := q10.1 = (0 : Int32)) (t := 73) (n := 64) rfl c11 ?_
        refine i_rs 1 (cf' := (74, [some (.ref 50), some (.int l1), some (.int l2), some (.int l3)], [.int (-1 : Int32)], i_S X q10.2)) rfl ?_
        obtain rfl := Option.some.inj h
        exact i_rret rfl rfl
      · replace h := (if_neg c11).symm.trans h
        refine i_rbF (c := q10.1 = (0 : Int32)) (t := 73) (n := 64) rfl c11 ?_
        refine i_rs 3 (cf' := (67, [some (.ref 50), some (.int l1), some (.int l2), some (.int l3)], [.int l3, .int l1, .ref 50], i_S X q10.2)) rfl ?_
        obtain ⟨q12, hq12, h⟩ := i_bdE h
        refine i_rcall (k := 184) (as := [.ref 50, .int l1, .int l3]) (cf1 := (70, [some (.ref 50), some (.int l1), some (.int l2), some (.int l3)], [], i_S X q10.2)) (cf' := (70, [some (.ref 50), some (.int l1), some (.int l2), some (.int l3)], [.int q12.1], i_S X q12.2)) rfl (ok_r_becomes (by omega) hq12) rfl ?_
        refine i_rs 1 (cf' := (74, [some (.ref 50), some (.int l1), some (.int l2), some (.int l3)], [.int q12.1], i_S X q12.2)) rfl ?_
        obtain rfl := Option.some.inj h
        exact i_rret rfl rfl
  · replace h := (if_neg c7).symm.trans h
    refine i_rswF c7 ?_
    by_cases c13 : l2 = (1 : Int32)
    · replace h := (if_pos c13).symm.trans h
      refine i_rswT c13 ?_
      refine i_rs 2 (cf' := (77, [some (.ref 50), some (.int l1), some (.int l2), some (.int l3)], [.int l1, .ref 50], i_S X M)) rfl ?_
      obtain ⟨q14, hq14, h⟩ := i_bdE h
      refine i_rcall (k := 183) (as := [.ref 50, .int l1]) (cf1 := (80, [some (.ref 50), some (.int l1), some (.int l2), some (.int l3)], [], i_S X M)) (cf' := (80, [some (.ref 50), some (.int l1), some (.int l2), some (.int l3)], [.int q14.1], i_S X q14.2)) rfl (ok_r_isCell (by omega) hq14) rfl ?_
      by_cases c15 : q14.1 = (0 : Int32)
      · replace h := (if_pos c15).symm.trans h
        refine i_rbT (c := q14.1 = (0 : Int32)) (t := 107) (n := 83) rfl c15 ?_
        refine i_rs 1 (cf' := (108, [some (.ref 50), some (.int l1), some (.int l2), some (.int l3)], [.int (-1 : Int32)], i_S X q14.2)) rfl ?_
        obtain rfl := Option.some.inj h
        exact i_rret rfl rfl
      · replace h := (if_neg c15).symm.trans h
        refine i_rbF (c := q14.1 = (0 : Int32)) (t := 107) (n := 83) rfl c15 ?_
        refine i_rs 4 (cf' := (89, [some (.ref 50), some (.int l1), some (.int l2), some (.int l3)], [.long (99 : Int64), .long (0 : Int64), .long (Int32.toInt64 l3)], i_S X q14.2)) rfl ?_
        obtain ⟨q16, hq16, h⟩ := i_bdE h
        refine i_rcall (k := 175) (as := [.long (Int32.toInt64 l3), .long (0 : Int64), .long (99 : Int64)]) (cf1 := (92, [some (.ref 50), some (.int l1), some (.int l2), some (.int l3)], [], i_S X q14.2)) (cf' := (92, [some (.ref 50), some (.int l1), some (.int l2), some (.int l3)], [.int q16.1], i_S X q16.2)) rfl (ok_r_within (by omega) hq16) rfl ?_
        by_cases c17 : q16.1 = (0 : Int32)
        · replace h := (if_pos c17).symm.trans h
          refine i_rbT (c := q16.1 = (0 : Int32)) (t := 107) (n := 95) rfl c17 ?_
          refine i_rs 1 (cf' := (108, [some (.ref 50), some (.int l1), some (.int l2), some (.int l3)], [.int (-1 : Int32)], i_S X q16.2)) rfl ?_
          obtain rfl := Option.some.inj h
          exact i_rret rfl rfl
        · replace h := (if_neg c17).symm.trans h
          refine i_rbF (c := q16.1 = (0 : Int32)) (t := 107) (n := 95) rfl c17 ?_
          refine i_rs 5 (cf' := (101, [some (.ref 50), some (.int l1), some (.int l2), some (.int l3)], [.int l3, .int ((25 : Int32) + l1), .ref 50], i_S X q16.2)) rfl ?_
          obtain ⟨q18, hq18, h⟩ := i_bdE h
          refine i_rcall (k := 184) (as := [.ref 50, .int ((25 : Int32) + l1), .int l3]) (cf1 := (104, [some (.ref 50), some (.int l1), some (.int l2), some (.int l3)], [], i_S X q16.2)) (cf' := (104, [some (.ref 50), some (.int l1), some (.int l2), some (.int l3)], [.int q18.1], i_S X q18.2)) rfl (ok_r_becomes (by omega) hq18) rfl ?_
          refine i_rs 1 (cf' := (108, [some (.ref 50), some (.int l1), some (.int l2), some (.int l3)], [.int q18.1], i_S X q18.2)) rfl ?_
          obtain rfl := Option.some.inj h
          exact i_rret rfl rfl
    · replace h := (if_neg c13).symm.trans h
      refine i_rswF c13 ?_
      by_cases c19 : l2 = (2 : Int32)
      · replace h := (if_pos c19).symm.trans h
        refine i_rswT c19 ?_
        refine i_rs 2 (cf' := (111, [some (.ref 50), some (.int l1), some (.int l2), some (.int l3)], [.int l1, .ref 50], i_S X M)) rfl ?_
        obtain ⟨q20, hq20, h⟩ := i_bdE h
        refine i_rcall (k := 185) (as := [.ref 50, .int l1]) (cf1 := (114, [some (.ref 50), some (.int l1), some (.int l2), some (.int l3)], [], i_S X M)) (cf' := (114, [some (.ref 50), some (.int l1), some (.int l2), some (.int l3)], [.int q20.1], i_S X q20.2)) rfl (ok_r_isBell (by omega) hq20) rfl ?_
        by_cases c21 : q20.1 = (0 : Int32)
        · replace h := (if_pos c21).symm.trans h
          refine i_rbT (c := q20.1 = (0 : Int32)) (t := 141) (n := 117) rfl c21 ?_
          refine i_rs 1 (cf' := (142, [some (.ref 50), some (.int l1), some (.int l2), some (.int l3)], [.int (-1 : Int32)], i_S X q20.2)) rfl ?_
          obtain rfl := Option.some.inj h
          exact i_rret rfl rfl
        · replace h := (if_neg c21).symm.trans h
          refine i_rbF (c := q20.1 = (0 : Int32)) (t := 141) (n := 117) rfl c21 ?_
          refine i_rs 4 (cf' := (123, [some (.ref 50), some (.int l1), some (.int l2), some (.int l3)], [.long (9 : Int64), .long (0 : Int64), .long (Int32.toInt64 l3)], i_S X q20.2)) rfl ?_
          obtain ⟨q22, hq22, h⟩ := i_bdE h
          refine i_rcall (k := 175) (as := [.long (Int32.toInt64 l3), .long (0 : Int64), .long (9 : Int64)]) (cf1 := (126, [some (.ref 50), some (.int l1), some (.int l2), some (.int l3)], [], i_S X q20.2)) (cf' := (126, [some (.ref 50), some (.int l1), some (.int l2), some (.int l3)], [.int q22.1], i_S X q22.2)) rfl (ok_r_within (by omega) hq22) rfl ?_
          by_cases c23 : q22.1 = (0 : Int32)
          · replace h := (if_pos c23).symm.trans h
            refine i_rbT (c := q22.1 = (0 : Int32)) (t := 141) (n := 129) rfl c23 ?_
            refine i_rs 1 (cf' := (142, [some (.ref 50), some (.int l1), some (.int l2), some (.int l3)], [.int (-1 : Int32)], i_S X q22.2)) rfl ?_
            obtain rfl := Option.some.inj h
            exact i_rret rfl rfl
          · replace h := (if_neg c23).symm.trans h
            refine i_rbF (c := q22.1 = (0 : Int32)) (t := 141) (n := 129) rfl c23 ?_
            refine i_rs 5 (cf' := (135, [some (.ref 50), some (.int l1), some (.int l2), some (.int l3)], [.int l3, .int ((50 : Int32) + l1), .ref 50], i_S X q22.2)) rfl ?_
            obtain ⟨q24, hq24, h⟩ := i_bdE h
            refine i_rcall (k := 184) (as := [.ref 50, .int ((50 : Int32) + l1), .int l3]) (cf1 := (138, [some (.ref 50), some (.int l1), some (.int l2), some (.int l3)], [], i_S X q22.2)) (cf' := (138, [some (.ref 50), some (.int l1), some (.int l2), some (.int l3)], [.int q24.1], i_S X q24.2)) rfl (ok_r_becomes (by omega) hq24) rfl ?_
            refine i_rs 1 (cf' := (142, [some (.ref 50), some (.int l1), some (.int l2), some (.int l3)], [.int q24.1], i_S X q24.2)) rfl ?_
            obtain rfl := Option.some.inj h
            exact i_rret rfl rfl
      · replace h := (if_neg c19).symm.trans h
        refine i_rswF c19 ?_
        by_cases c25 : l2 = (3 : Int32)
        · replace h := (if_pos c25).symm.trans h
          refine i_rswT c25 ?_
          refine i_fg (lv' := [some (.ref 50), some (.int l1), some (.int l2), some (.int l3)]) (And.intro rfl (And.intro rfl (And.intro rfl (And.intro rfl True.intro)))) ?_
          exact ok_r_mend_B143 (by omega) h
        · replace h := (if_neg c25).symm.trans h
          refine i_rswF c25 ?_
          by_cases c26 : l2 = (4 : Int32)
          · replace h := (if_pos c26).symm.trans h
            refine i_rswT c26 ?_
            refine i_fg (lv' := [some (.ref 50), some (.int l1), some (.int l2), some (.int l3)]) (And.intro rfl (And.intro rfl (And.intro rfl (And.intro rfl True.intro)))) ?_
            exact ok_r_mend_B143 (by omega) h
          · replace h := (if_neg c26).symm.trans h
            refine i_rswF c26 ?_
            by_cases c27 : l2 = (5 : Int32)
            · replace h := (if_pos c27).symm.trans h
              refine i_rswT c27 ?_
              refine i_fg (lv' := [some (.ref 50), some (.int l1), some (.int l2), some (.int l3)]) (And.intro rfl (And.intro rfl (And.intro rfl (And.intro rfl True.intro)))) ?_
              exact ok_r_mend_B143 (by omega) h
            · replace h := (if_neg c27).symm.trans h
              refine i_rswF c27 ?_
              by_cases c28 : l2 = (6 : Int32)
              · replace h := (if_pos c28).symm.trans h
                refine i_rswT c28 ?_
                refine i_fg (lv' := [some (.ref 50), some (.int l1), some (.int l2), some (.int l3)]) (And.intro rfl (And.intro rfl (And.intro rfl (And.intro rfl True.intro)))) ?_
                exact ok_r_mend_B143 (by omega) h
              · replace h := (if_neg c28).symm.trans h
                refine i_rswF c28 ?_
                refine i_rs 1 (cf' := (196, [some (.ref 50), some (.int l1), some (.int l2), some (.int l3)], [.int (-1 : Int32)], i_S X M)) rfl ?_
                obtain rfl := Option.some.inj h
                exact i_rret rfl rfl
def b_ofCell (l1 : Int32) (l2 : Int32) (M : I_M) : Option (Int32 × I_M) :=
  Option.bind (b_Land_has l1 M) (fun q1 => (if q1.1 = (0 : Int32) then
      some ((-1 : Int32), q1.2)
    else
      (if l2 = (0 : Int32) then
        i_g l1 25 (some ((q1.2.1 4 (Int32.toNatClampNeg l1)), q1.2))
      else
        (if l2 = (1 : Int32) then
          i_g l1 25 (some ((q1.2.1 5 (Int32.toNatClampNeg l1)), q1.2))
        else
          some ((-1 : Int32), q1.2)))))
theorem ok_b_ofCell {X : Nat × (Nat → Int32)} {d : Nat} {l1 : Int32} {l2 : Int32} {M : I_M} {r : (Int32 × I_M)} (hd : 3 ≤ d) (h : b_ofCell l1 l2 M = some r) : I_Ex d 36 [.ref 0, .int l1, .int l2] (i_S X M) (some (.int r.1)) (i_S X r.2) := by
  obtain ⟨d, rfl⟩ : ∃ d1, d = d1 + 1 := ⟨d - 1, by omega⟩
  unfold b_ofCell at h
  refine i_ex (e := i_r36) (lv := [some (.ref 0), some (.int l1), some (.int l2)]) rfl (Nat.le_of_ble_eq_true rfl) rfl ?_
  show I_RnE (I_Ex d) i_c36 (0, [some (.ref 0), some (.int l1), some (.int l2)], [], i_S X M) _ _
  refine i_rs 3 (cf' := (5, [some (.ref 0), some (.int l1), some (.int l2)], [.int l1, .ref 1], i_S X M)) rfl ?_
  obtain ⟨q1, hq1, h⟩ := i_bdE h
  refine i_rcall (k := 20) (as := [.ref 1, .int l1]) (cf1 := (8, [some (.ref 0), some (.int l1), some (.int l2)], [], i_S X M)) (cf' := (8, [some (.ref 0), some (.int l1), some (.int l2)], [.int q1.1], i_S X q1.2)) rfl (ok_b_Land_has (by omega) hq1) rfl ?_
  by_cases c2 : q1.1 = (0 : Int32)
  · replace h := (if_pos c2).symm.trans h
    refine i_rbT (c := q1.1 = (0 : Int32)) (t := 11) (n := 13) rfl c2 ?_
    refine i_rs 1 (cf' := (12, [some (.ref 0), some (.int l1), some (.int l2)], [.int (-1 : Int32)], i_S X q1.2)) rfl ?_
    obtain rfl := Option.some.inj h
    exact i_rret rfl rfl
  · replace h := (if_neg c2).symm.trans h
    refine i_rbF (c := q1.1 = (0 : Int32)) (t := 11) (n := 13) rfl c2 ?_
    refine i_rs 1 (cf' := (14, [some (.ref 0), some (.int l1), some (.int l2)], [.int l2], i_S X q1.2)) rfl ?_
    refine i_stp1 (cf' := (i_sw l2 60 [(0, 40), (1, 50)], [some (.ref 0), some (.int l1), some (.int l2)], [], i_S X q1.2)) rfl ?_
    by_cases c3 : l2 = (0 : Int32)
    · replace h := (if_pos c3).symm.trans h
      refine i_rswT c3 ?_
      refine i_rs 4 (cf' := (48, [some (.ref 0), some (.int l1), some (.int l2)], [.int l1, .ref 4], i_S X q1.2)) rfl ?_
      obtain ⟨g4, h⟩ := i_gE h
      refine i_riald (n := 25) (cf' := (49, [some (.ref 0), some (.int l1), some (.int l2)], [.int (q1.2.1 4 (Int32.toNatClampNeg l1))], i_S X q1.2)) rfl rfl (by decide) g4 rfl ?_
      obtain rfl := Option.some.inj h
      exact i_rret rfl rfl
    · replace h := (if_neg c3).symm.trans h
      refine i_rswF c3 ?_
      by_cases c5 : l2 = (1 : Int32)
      · replace h := (if_pos c5).symm.trans h
        refine i_rswT c5 ?_
        refine i_rs 4 (cf' := (58, [some (.ref 0), some (.int l1), some (.int l2)], [.int l1, .ref 5], i_S X q1.2)) rfl ?_
        obtain ⟨g6, h⟩ := i_gE h
        refine i_riald (n := 25) (cf' := (59, [some (.ref 0), some (.int l1), some (.int l2)], [.int (q1.2.1 5 (Int32.toNatClampNeg l1))], i_S X q1.2)) rfl rfl (by decide) g6 rfl ?_
        obtain rfl := Option.some.inj h
        exact i_rret rfl rfl
      · replace h := (if_neg c5).symm.trans h
        refine i_rswF c5 ?_
        refine i_rs 1 (cf' := (61, [some (.ref 0), some (.int l1), some (.int l2)], [.int (-1 : Int32)], i_S X q1.2)) rfl ?_
        obtain rfl := Option.some.inj h
        exact i_rret rfl rfl
def b_Buried_isFound (l1 : Int32) (M : I_M) : Option (Int32 × I_M) :=
  (if (((M.1 13 7) >>> (l1 &&& 31)) &&& (1 : Int32)) = (0 : Int32) then
      some ((0 : Int32), M)
    else
      some ((1 : Int32), M))
theorem ok_b_Buried_isFound {X : Nat × (Nat → Int32)} {d : Nat} {l1 : Int32} {M : I_M} {r : (Int32 × I_M)} (hd : 1 ≤ d) (h : b_Buried_isFound l1 M = some r) : I_Ex d 38 [.ref 13, .int l1] (i_S X M) (some (.int r.1)) (i_S X r.2) := by
  obtain ⟨d, rfl⟩ : ∃ d1, d = d1 + 1 := ⟨d - 1, by omega⟩
  unfold b_Buried_isFound at h
  refine i_ex (e := i_r38) (lv := [some (.ref 13), some (.int l1)]) rfl (Nat.le_of_ble_eq_true rfl) rfl ?_
  show I_RnE (I_Ex d) i_c38 (0, [some (.ref 13), some (.int l1)], [], i_S X M) _ _
  refine i_rs 6 (cf' := (8, [some (.ref 13), some (.int l1)], [.int (((M.1 13 7) >>> (l1 &&& 31)) &&& (1 : Int32))], i_S X M)) rfl ?_
  by_cases c1 : (((M.1 13 7) >>> (l1 &&& 31)) &&& (1 : Int32)) = (0 : Int32)
  · replace h := (if_pos c1).symm.trans h
    refine i_rbT (c := (((M.1 13 7) >>> (l1 &&& 31)) &&& (1 : Int32)) = (0 : Int32)) (t := 15) (n := 11) rfl c1 ?_
    refine i_rs 1 (cf' := (16, [some (.ref 13), some (.int l1)], [.int (0 : Int32)], i_S X M)) rfl ?_
    obtain rfl := Option.some.inj h
    exact i_rretZ rfl (Or.inl rfl) rfl
  · replace h := (if_neg c1).symm.trans h
    refine i_rbF (c := (((M.1 13 7) >>> (l1 &&& 31)) &&& (1 : Int32)) = (0 : Int32)) (t := 15) (n := 11) rfl c1 ?_
    refine i_rs 2 (cf' := (16, [some (.ref 13), some (.int l1)], [.int (1 : Int32)], i_S X M)) rfl ?_
    obtain rfl := Option.some.inj h
    exact i_rretZ rfl (Or.inr rfl) rfl
def b_ofBell (l1 : Int32) (l2 : Int32) (M : I_M) : Option (Int32 × I_M) :=
  Option.bind (b_Buried_has l1 M) (fun q1 => (if q1.1 = (0 : Int32) then
      some ((-1 : Int32), q1.2)
    else
      (if l2 = (10 : Int32) then
        i_g l1 6 (some ((q1.2.1 14 (Int32.toNatClampNeg l1)), q1.2))
      else
        (if l2 = (11 : Int32) then
          i_g l1 6 (some ((q1.2.1 15 (Int32.toNatClampNeg l1)), q1.2))
        else
          (if l2 = (12 : Int32) then
            i_g l1 6 (some ((q1.2.1 16 (Int32.toNatClampNeg l1)), q1.2))
          else
            (if l2 = (13 : Int32) then
              i_g l1 6 (some ((q1.2.1 17 (Int32.toNatClampNeg l1)), q1.2))
            else
              (if l2 = (14 : Int32) then
                Option.bind (b_Buried_isFound l1 q1.2) (fun q12 => (if q12.1 = (0 : Int32) then
                  some ((0 : Int32), q12.2)
                else
                  some ((1 : Int32), q12.2)))
              else
                some ((-1 : Int32), q1.2))))))))
theorem ok_b_ofBell {X : Nat × (Nat → Int32)} {d : Nat} {l1 : Int32} {l2 : Int32} {M : I_M} {r : (Int32 × I_M)} (hd : 2 ≤ d) (h : b_ofBell l1 l2 M = some r) : I_Ex d 37 [.ref 0, .int l1, .int l2] (i_S X M) (some (.int r.1)) (i_S X r.2) := by
  obtain ⟨d, rfl⟩ : ∃ d1, d = d1 + 1 := ⟨d - 1, by omega⟩
  unfold b_ofBell at h
  refine i_ex (e := i_r37) (lv := [some (.ref 0), some (.int l1), some (.int l2)]) rfl (Nat.le_of_ble_eq_true rfl) rfl ?_
  show I_RnE (I_Ex d) i_c37 (0, [some (.ref 0), some (.int l1), some (.int l2)], [], i_S X M) _ _
  refine i_rs 3 (cf' := (5, [some (.ref 0), some (.int l1), some (.int l2)], [.int l1, .ref 13], i_S X M)) rfl ?_
  obtain ⟨q1, hq1, h⟩ := i_bdE h
  refine i_rcall (k := 30) (as := [.ref 13, .int l1]) (cf1 := (8, [some (.ref 0), some (.int l1), some (.int l2)], [], i_S X M)) (cf' := (8, [some (.ref 0), some (.int l1), some (.int l2)], [.int q1.1], i_S X q1.2)) rfl (ok_b_Buried_has (by omega) hq1) rfl ?_
  by_cases c2 : q1.1 = (0 : Int32)
  · replace h := (if_pos c2).symm.trans h
    refine i_rbT (c := q1.1 = (0 : Int32)) (t := 11) (n := 13) rfl c2 ?_
    refine i_rs 1 (cf' := (12, [some (.ref 0), some (.int l1), some (.int l2)], [.int (-1 : Int32)], i_S X q1.2)) rfl ?_
    obtain rfl := Option.some.inj h
    exact i_rret rfl rfl
  · replace h := (if_neg c2).symm.trans h
    refine i_rbF (c := q1.1 = (0 : Int32)) (t := 11) (n := 13) rfl c2 ?_
    refine i_rs 1 (cf' := (14, [some (.ref 0), some (.int l1), some (.int l2)], [.int l2], i_S X q1.2)) rfl ?_
    refine i_stp1 (cf' := (i_sw l2 105 [(10, 48), (11, 58), (12, 68), (13, 78), (14, 88)], [some (.ref 0), some (.int l1), some (.int l2)], [], i_S X q1.2)) rfl ?_
    by_cases c3 : l2 = (10 : Int32)
    · replace h := (if_pos c3).symm.trans h
      refine i_rswT c3 ?_
      refine i_rs 4 (cf' := (56, [some (.ref 0), some (.int l1), some (.int l2)], [.int l1, .ref 14], i_S X q1.2)) rfl ?_
      obtain ⟨g4, h⟩ := i_gE h
      refine i_riald (n := 6) (cf' := (57, [some (.ref 0), some (.int l1), some (.int l2)], [.int (q1.2.1 14 (Int32.toNatClampNeg l1))], i_S X q1.2)) rfl rfl (by decide) g4 rfl ?_
      obtain rfl := Option.some.inj h
      exact i_rret rfl rfl
    · replace h := (if_neg c3).symm.trans h
      refine i_rswF c3 ?_
      by_cases c5 : l2 = (11 : Int32)
      · replace h := (if_pos c5).symm.trans h
        refine i_rswT c5 ?_
        refine i_rs 4 (cf' := (66, [some (.ref 0), some (.int l1), some (.int l2)], [.int l1, .ref 15], i_S X q1.2)) rfl ?_
        obtain ⟨g6, h⟩ := i_gE h
        refine i_riald (n := 6) (cf' := (67, [some (.ref 0), some (.int l1), some (.int l2)], [.int (q1.2.1 15 (Int32.toNatClampNeg l1))], i_S X q1.2)) rfl rfl (by decide) g6 rfl ?_
        obtain rfl := Option.some.inj h
        exact i_rret rfl rfl
      · replace h := (if_neg c5).symm.trans h
        refine i_rswF c5 ?_
        by_cases c7 : l2 = (12 : Int32)
        · replace h := (if_pos c7).symm.trans h
          refine i_rswT c7 ?_
          refine i_rs 4 (cf' := (76, [some (.ref 0), some (.int l1), some (.int l2)], [.int l1, .ref 16], i_S X q1.2)) rfl ?_
          obtain ⟨g8, h⟩ := i_gE h
          refine i_riald (n := 6) (cf' := (77, [some (.ref 0), some (.int l1), some (.int l2)], [.int (q1.2.1 16 (Int32.toNatClampNeg l1))], i_S X q1.2)) rfl rfl (by decide) g8 rfl ?_
          obtain rfl := Option.some.inj h
          exact i_rret rfl rfl
        · replace h := (if_neg c7).symm.trans h
          refine i_rswF c7 ?_
          by_cases c9 : l2 = (13 : Int32)
          · replace h := (if_pos c9).symm.trans h
            refine i_rswT c9 ?_
            refine i_rs 4 (cf' := (86, [some (.ref 0), some (.int l1), some (.int l2)], [.int l1, .ref 17], i_S X q1.2)) rfl ?_
            obtain ⟨g10, h⟩ := i_gE h
            refine i_riald (n := 6) (cf' := (87, [some (.ref 0), some (.int l1), some (.int l2)], [.int (q1.2.1 17 (Int32.toNatClampNeg l1))], i_S X q1.2)) rfl rfl (by decide) g10 rfl ?_
            obtain rfl := Option.some.inj h
            exact i_rret rfl rfl
          · replace h := (if_neg c9).symm.trans h
            refine i_rswF c9 ?_
            by_cases c11 : l2 = (14 : Int32)
            · replace h := (if_pos c11).symm.trans h
              refine i_rswT c11 ?_
              refine i_rs 3 (cf' := (93, [some (.ref 0), some (.int l1), some (.int l2)], [.int l1, .ref 13], i_S X q1.2)) rfl ?_
              obtain ⟨q12, hq12, h⟩ := i_bdE h
              refine i_rcall (k := 38) (as := [.ref 13, .int l1]) (cf1 := (96, [some (.ref 0), some (.int l1), some (.int l2)], [], i_S X q1.2)) (cf' := (96, [some (.ref 0), some (.int l1), some (.int l2)], [.int q12.1], i_S X q12.2)) rfl (ok_b_Buried_isFound (by omega) hq12) rfl ?_
              by_cases c13 : q12.1 = (0 : Int32)
              · replace h := (if_pos c13).symm.trans h
                refine i_rbT (c := q12.1 = (0 : Int32)) (t := 103) (n := 99) rfl c13 ?_
                refine i_rs 1 (cf' := (104, [some (.ref 0), some (.int l1), some (.int l2)], [.int (0 : Int32)], i_S X q12.2)) rfl ?_
                obtain rfl := Option.some.inj h
                exact i_rret rfl rfl
              · replace h := (if_neg c13).symm.trans h
                refine i_rbF (c := q12.1 = (0 : Int32)) (t := 103) (n := 99) rfl c13 ?_
                refine i_rs 2 (cf' := (104, [some (.ref 0), some (.int l1), some (.int l2)], [.int (1 : Int32)], i_S X q12.2)) rfl ?_
                obtain rfl := Option.some.inj h
                exact i_rret rfl rfl
            · replace h := (if_neg c11).symm.trans h
              refine i_rswF c11 ?_
              refine i_rs 1 (cf' := (106, [some (.ref 0), some (.int l1), some (.int l2)], [.int (-1 : Int32)], i_S X q1.2)) rfl ?_
              obtain rfl := Option.some.inj h
              exact i_rret rfl rfl
def b_ofAll (l1 : Int32) (M : I_M) : Option (Int32 × I_M) :=
  (if l1 = (20 : Int32) then
      some ((M.1 1 6), M)
    else
      (if l1 = (21 : Int32) then
        some ((M.1 1 7), M)
      else
        (if l1 = (22 : Int32) then
          some ((M.1 1 8), M)
        else
          (if l1 = (23 : Int32) then
            some ((M.1 1 9), M)
          else
            (if l1 = (24 : Int32) then
              some ((M.1 13 8), M)
            else
              some ((-1 : Int32), M))))))
theorem ok_b_ofAll {X : Nat × (Nat → Int32)} {d : Nat} {l1 : Int32} {M : I_M} {r : (Int32 × I_M)} (hd : 1 ≤ d) (h : b_ofAll l1 M = some r) : I_Ex d 39 [.ref 0, .int l1] (i_S X M) (some (.int r.1)) (i_S X r.2) := by
  obtain ⟨d, rfl⟩ : ∃ d1, d = d1 + 1 := ⟨d - 1, by omega⟩
  unfold b_ofAll at h
  refine i_ex (e := i_r39) (lv := [some (.ref 0), some (.int l1)]) rfl (Nat.le_of_ble_eq_true rfl) rfl ?_
  show I_RnE (I_Ex d) i_c39 (0, [some (.ref 0), some (.int l1)], [], i_S X M) _ _
  refine i_rs 1 (cf' := (1, [some (.ref 0), some (.int l1)], [.int l1], i_S X M)) rfl ?_
  refine i_stp1 (cf' := (i_sw l1 76 [(20, 36), (21, 44), (22, 52), (23, 60), (24, 68)], [some (.ref 0), some (.int l1)], [], i_S X M)) rfl ?_
  by_cases c1 : l1 = (20 : Int32)
  · replace h := (if_pos c1).symm.trans h
    refine i_rswT c1 ?_
    refine i_rs 3 (cf' := (43, [some (.ref 0), some (.int l1)], [.int (M.1 1 6)], i_S X M)) rfl ?_
    obtain rfl := Option.some.inj h
    exact i_rret rfl rfl
  · replace h := (if_neg c1).symm.trans h
    refine i_rswF c1 ?_
    by_cases c2 : l1 = (21 : Int32)
    · replace h := (if_pos c2).symm.trans h
      refine i_rswT c2 ?_
      refine i_rs 3 (cf' := (51, [some (.ref 0), some (.int l1)], [.int (M.1 1 7)], i_S X M)) rfl ?_
      obtain rfl := Option.some.inj h
      exact i_rret rfl rfl
    · replace h := (if_neg c2).symm.trans h
      refine i_rswF c2 ?_
      by_cases c3 : l1 = (22 : Int32)
      · replace h := (if_pos c3).symm.trans h
        refine i_rswT c3 ?_
        refine i_rs 3 (cf' := (59, [some (.ref 0), some (.int l1)], [.int (M.1 1 8)], i_S X M)) rfl ?_
        obtain rfl := Option.some.inj h
        exact i_rret rfl rfl
      · replace h := (if_neg c3).symm.trans h
        refine i_rswF c3 ?_
        by_cases c4 : l1 = (23 : Int32)
        · replace h := (if_pos c4).symm.trans h
          refine i_rswT c4 ?_
          refine i_rs 3 (cf' := (67, [some (.ref 0), some (.int l1)], [.int (M.1 1 9)], i_S X M)) rfl ?_
          obtain rfl := Option.some.inj h
          exact i_rret rfl rfl
        · replace h := (if_neg c4).symm.trans h
          refine i_rswF c4 ?_
          by_cases c5 : l1 = (24 : Int32)
          · replace h := (if_pos c5).symm.trans h
            refine i_rswT c5 ?_
            refine i_rs 3 (cf' := (75, [some (.ref 0), some (.int l1)], [.int (M.1 13 8)], i_S X M)) rfl ?_
            obtain rfl := Option.some.inj h
            exact i_rret rfl rfl
          · replace h := (if_neg c5).symm.trans h
            refine i_rswF c5 ?_
            refine i_rs 1 (cf' := (77, [some (.ref 0), some (.int l1)], [.int (-1 : Int32)], i_S X M)) rfl ?_
            obtain rfl := Option.some.inj h
            exact i_rret rfl rfl
def b_Hearings_has_18 (l1 : Int32) (M : I_M) : Option (Int32 × I_M) :=
  (if l1 < (0 : Int32) then
      some ((0 : Int32), M)
    else
      (if l1 < (M.1 18 3) then
        some ((1 : Int32), M)
      else
        some ((0 : Int32), M)))
theorem ok_b_Hearings_has_18 {X : Nat × (Nat → Int32)} {d : Nat} {l1 : Int32} {M : I_M} {r : (Int32 × I_M)} (hd : 1 ≤ d) (h : b_Hearings_has_18 l1 M = some r) : I_Ex d 41 [.ref 18, .int l1] (i_S X M) (some (.int r.1)) (i_S X r.2) := by
  obtain ⟨d, rfl⟩ : ∃ d1, d = d1 + 1 := ⟨d - 1, by omega⟩
  unfold b_Hearings_has_18 at h
  refine i_ex (e := i_r41) (lv := [some (.ref 18), some (.int l1)]) rfl (Nat.le_of_ble_eq_true rfl) rfl ?_
  show I_RnE (I_Ex d) i_c41 (0, [some (.ref 18), some (.int l1)], [], i_S X M) _ _
  refine i_rs 1 (cf' := (1, [some (.ref 18), some (.int l1)], [.int l1], i_S X M)) rfl ?_
  by_cases c1 : l1 < (0 : Int32)
  · replace h := (if_pos c1).symm.trans h
    refine i_rbT (c := l1 < (0 : Int32)) (t := 16) (n := 4) rfl c1 ?_
    refine i_rs 1 (cf' := (17, [some (.ref 18), some (.int l1)], [.int (0 : Int32)], i_S X M)) rfl ?_
    obtain rfl := Option.some.inj h
    exact i_rretZ rfl (Or.inl rfl) rfl
  · replace h := (if_neg c1).symm.trans h
    refine i_rbF (c := l1 < (0 : Int32)) (t := 16) (n := 4) rfl c1 ?_
    refine i_rs 3 (cf' := (9, [some (.ref 18), some (.int l1)], [.int (M.1 18 3), .int l1], i_S X M)) rfl ?_
    by_cases c2 : l1 < (M.1 18 3)
    · replace h := (if_pos c2).symm.trans h
      refine i_rbT (c := l1 < (M.1 18 3)) (t := 12) (n := 16) rfl c2 ?_
      refine i_rs 2 (cf' := (17, [some (.ref 18), some (.int l1)], [.int (1 : Int32)], i_S X M)) rfl ?_
      obtain rfl := Option.some.inj h
      exact i_rretZ rfl (Or.inr rfl) rfl
    · replace h := (if_neg c2).symm.trans h
      refine i_rbF (c := l1 < (M.1 18 3)) (t := 12) (n := 16) rfl c2 ?_
      refine i_rs 1 (cf' := (17, [some (.ref 18), some (.int l1)], [.int (0 : Int32)], i_S X M)) rfl ?_
      obtain rfl := Option.some.inj h
      exact i_rretZ rfl (Or.inl rfl) rfl
def b_ofHearing (l1 : Int32) (l2 : Int32) (M : I_M) : Option (Int32 × I_M) :=
  Option.bind (b_Hearings_has_18 l1 M) (fun q1 => (if q1.1 = (0 : Int32) then
      some ((-1 : Int32), q1.2)
    else
      (if l2 = (30 : Int32) then
        i_g l1 10 (some ((q1.2.1 19 (Int32.toNatClampNeg l1)), q1.2))
      else
        (if l2 = (31 : Int32) then
          i_g l1 10 (some ((q1.2.1 20 (Int32.toNatClampNeg l1)), q1.2))
        else
          (if l2 = (32 : Int32) then
            i_g l1 10 (some ((q1.2.1 21 (Int32.toNatClampNeg l1)), q1.2))
          else
            some ((-1 : Int32), q1.2))))))
theorem ok_b_ofHearing {X : Nat × (Nat → Int32)} {d : Nat} {l1 : Int32} {l2 : Int32} {M : I_M} {r : (Int32 × I_M)} (hd : 2 ≤ d) (h : b_ofHearing l1 l2 M = some r) : I_Ex d 40 [.ref 0, .int l1, .int l2] (i_S X M) (some (.int r.1)) (i_S X r.2) := by
  obtain ⟨d, rfl⟩ : ∃ d1, d = d1 + 1 := ⟨d - 1, by omega⟩
  unfold b_ofHearing at h
  refine i_ex (e := i_r40) (lv := [some (.ref 0), some (.int l1), some (.int l2)]) rfl (Nat.le_of_ble_eq_true rfl) rfl ?_
  show I_RnE (I_Ex d) i_c40 (0, [some (.ref 0), some (.int l1), some (.int l2)], [], i_S X M) _ _
  refine i_rs 3 (cf' := (5, [some (.ref 0), some (.int l1), some (.int l2)], [.int l1, .ref 18], i_S X M)) rfl ?_
  obtain ⟨q1, hq1, h⟩ := i_bdE h
  refine i_rcall (k := 41) (as := [.ref 18, .int l1]) (cf1 := (8, [some (.ref 0), some (.int l1), some (.int l2)], [], i_S X M)) (cf' := (8, [some (.ref 0), some (.int l1), some (.int l2)], [.int q1.1], i_S X q1.2)) rfl (ok_b_Hearings_has_18 (by omega) hq1) rfl ?_
  by_cases c2 : q1.1 = (0 : Int32)
  · replace h := (if_pos c2).symm.trans h
    refine i_rbT (c := q1.1 = (0 : Int32)) (t := 11) (n := 13) rfl c2 ?_
    refine i_rs 1 (cf' := (12, [some (.ref 0), some (.int l1), some (.int l2)], [.int (-1 : Int32)], i_S X q1.2)) rfl ?_
    obtain rfl := Option.some.inj h
    exact i_rret rfl rfl
  · replace h := (if_neg c2).symm.trans h
    refine i_rbF (c := q1.1 = (0 : Int32)) (t := 11) (n := 13) rfl c2 ?_
    refine i_rs 1 (cf' := (14, [some (.ref 0), some (.int l1), some (.int l2)], [.int l2], i_S X q1.2)) rfl ?_
    refine i_stp1 (cf' := (i_sw l2 70 [(30, 40), (31, 50), (32, 60)], [some (.ref 0), some (.int l1), some (.int l2)], [], i_S X q1.2)) rfl ?_
    by_cases c3 : l2 = (30 : Int32)
    · replace h := (if_pos c3).symm.trans h
      refine i_rswT c3 ?_
      refine i_rs 4 (cf' := (48, [some (.ref 0), some (.int l1), some (.int l2)], [.int l1, .ref 19], i_S X q1.2)) rfl ?_
      obtain ⟨g4, h⟩ := i_gE h
      refine i_riald (n := 10) (cf' := (49, [some (.ref 0), some (.int l1), some (.int l2)], [.int (q1.2.1 19 (Int32.toNatClampNeg l1))], i_S X q1.2)) rfl rfl (by decide) g4 rfl ?_
      obtain rfl := Option.some.inj h
      exact i_rret rfl rfl
    · replace h := (if_neg c3).symm.trans h
      refine i_rswF c3 ?_
      by_cases c5 : l2 = (31 : Int32)
      · replace h := (if_pos c5).symm.trans h
        refine i_rswT c5 ?_
        refine i_rs 4 (cf' := (58, [some (.ref 0), some (.int l1), some (.int l2)], [.int l1, .ref 20], i_S X q1.2)) rfl ?_
        obtain ⟨g6, h⟩ := i_gE h
        refine i_riald (n := 10) (cf' := (59, [some (.ref 0), some (.int l1), some (.int l2)], [.int (q1.2.1 20 (Int32.toNatClampNeg l1))], i_S X q1.2)) rfl rfl (by decide) g6 rfl ?_
        obtain rfl := Option.some.inj h
        exact i_rret rfl rfl
      · replace h := (if_neg c5).symm.trans h
        refine i_rswF c5 ?_
        by_cases c7 : l2 = (32 : Int32)
        · replace h := (if_pos c7).symm.trans h
          refine i_rswT c7 ?_
          refine i_rs 4 (cf' := (68, [some (.ref 0), some (.int l1), some (.int l2)], [.int l1, .ref 21], i_S X q1.2)) rfl ?_
          obtain ⟨g8, h⟩ := i_gE h
          refine i_riald (n := 10) (cf' := (69, [some (.ref 0), some (.int l1), some (.int l2)], [.int (q1.2.1 21 (Int32.toNatClampNeg l1))], i_S X q1.2)) rfl rfl (by decide) g8 rfl ?_
          obtain rfl := Option.some.inj h
          exact i_rret rfl rfl
        · replace h := (if_neg c7).symm.trans h
          refine i_rswF c7 ?_
          refine i_rs 1 (cf' := (71, [some (.ref 0), some (.int l1), some (.int l2)], [.int (-1 : Int32)], i_S X q1.2)) rfl ?_
          obtain rfl := Option.some.inj h
          exact i_rret rfl rfl
def b_of_B36 (l1 : Int32) (l2 : Int32) (M : I_M) : Option (Int32 × I_M) :=
  (if l2 < (20 : Int32) then
      Option.bind (b_ofHearing l1 l2 M) (fun q5 => some (q5.1, q5.2))
    else
      (if l2 < (30 : Int32) then
        (if l1 = (0 : Int32) then
          Option.bind (b_ofAll l2 M) (fun q8 => some (q8.1, q8.2))
        else
          some ((-1 : Int32), M))
      else
        Option.bind (b_ofHearing l1 l2 M) (fun q9 => some (q9.1, q9.2))))
theorem ok_b_of_B36 {X : Nat × (Nat → Int32)} {d : Nat} {l1 : Int32} {l2 : Int32} {M : I_M} {r : (Int32 × I_M)} (hd : 4 ≤ d + 1) (h : b_of_B36 l1 l2 M = some r) : I_RnE (I_Ex d) i_c35 (36, [some (.ref 0), some (.int l1), some (.int l2)], [], i_S X M) (some (.int r.1)) (i_S X r.2) := by
  unfold b_of_B36 at h
  refine i_rs 2 (cf' := (39, [some (.ref 0), some (.int l1), some (.int l2)], [.int (20 : Int32), .int l2], i_S X M)) rfl ?_
  by_cases c4 : l2 < (20 : Int32)
  · replace h := (if_pos c4).symm.trans h
    refine i_rbT (c := l2 < (20 : Int32)) (t := 62) (n := 42) rfl c4 ?_
    refine i_rs 3 (cf' := (65, [some (.ref 0), some (.int l1), some (.int l2)], [.int l2, .int l1, .ref 0], i_S X M)) rfl ?_
    obtain ⟨q5, hq5, h⟩ := i_bdE h
    refine i_rcall (k := 40) (as := [.ref 0, .int l1, .int l2]) (cf1 := (68, [some (.ref 0), some (.int l1), some (.int l2)], [], i_S X M)) (cf' := (68, [some (.ref 0), some (.int l1), some (.int l2)], [.int q5.1], i_S X q5.2)) rfl (ok_b_ofHearing (by omega) hq5) rfl ?_
    obtain rfl := Option.some.inj h
    exact i_rret rfl rfl
  · replace h := (if_neg c4).symm.trans h
    refine i_rbF (c := l2 < (20 : Int32)) (t := 62) (n := 42) rfl c4 ?_
    refine i_rs 2 (cf' := (45, [some (.ref 0), some (.int l1), some (.int l2)], [.int (30 : Int32), .int l2], i_S X M)) rfl ?_
    by_cases c6 : l2 < (30 : Int32)
    · replace h := (if_pos c6).symm.trans h
      refine i_rbT (c := l2 < (30 : Int32)) (t := 48) (n := 62) rfl c6 ?_
      refine i_rs 1 (cf' := (49, [some (.ref 0), some (.int l1), some (.int l2)], [.int l1], i_S X M)) rfl ?_
      by_cases c7 : l1 = (0 : Int32)
      · replace h := (if_pos c7).symm.trans h
        refine i_rbT (c := l1 = (0 : Int32)) (t := 52) (n := 60) rfl c7 ?_
        refine i_rs 2 (cf' := (54, [some (.ref 0), some (.int l1), some (.int l2)], [.int l2, .ref 0], i_S X M)) rfl ?_
        obtain ⟨q8, hq8, h⟩ := i_bdE h
        refine i_rcall (k := 39) (as := [.ref 0, .int l2]) (cf1 := (57, [some (.ref 0), some (.int l1), some (.int l2)], [], i_S X M)) (cf' := (57, [some (.ref 0), some (.int l1), some (.int l2)], [.int q8.1], i_S X q8.2)) rfl (ok_b_ofAll (by omega) hq8) rfl ?_
        refine i_rs 1 (cf' := (61, [some (.ref 0), some (.int l1), some (.int l2)], [.int q8.1], i_S X q8.2)) rfl ?_
        obtain rfl := Option.some.inj h
        exact i_rret rfl rfl
      · replace h := (if_neg c7).symm.trans h
        refine i_rbF (c := l1 = (0 : Int32)) (t := 52) (n := 60) rfl c7 ?_
        refine i_rs 1 (cf' := (61, [some (.ref 0), some (.int l1), some (.int l2)], [.int (-1 : Int32)], i_S X M)) rfl ?_
        obtain rfl := Option.some.inj h
        exact i_rret rfl rfl
    · replace h := (if_neg c6).symm.trans h
      refine i_rbF (c := l2 < (30 : Int32)) (t := 48) (n := 62) rfl c6 ?_
      refine i_rs 3 (cf' := (65, [some (.ref 0), some (.int l1), some (.int l2)], [.int l2, .int l1, .ref 0], i_S X M)) rfl ?_
      obtain ⟨q9, hq9, h⟩ := i_bdE h
      refine i_rcall (k := 40) (as := [.ref 0, .int l1, .int l2]) (cf1 := (68, [some (.ref 0), some (.int l1), some (.int l2)], [], i_S X M)) (cf' := (68, [some (.ref 0), some (.int l1), some (.int l2)], [.int q9.1], i_S X q9.2)) rfl (ok_b_ofHearing (by omega) hq9) rfl ?_
      obtain rfl := Option.some.inj h
      exact i_rret rfl rfl
def b_of_B17 (l1 : Int32) (l2 : Int32) (M : I_M) : Option (Int32 × I_M) :=
  (if l2 < (10 : Int32) then
      b_of_B36 l1 l2 M
    else
      (if l2 < (20 : Int32) then
        Option.bind (b_ofBell l1 l2 M) (fun q3 => some (q3.1, q3.2))
      else
        b_of_B36 l1 l2 M))
theorem ok_b_of_B17 {X : Nat × (Nat → Int32)} {d : Nat} {l1 : Int32} {l2 : Int32} {M : I_M} {r : (Int32 × I_M)} (hd : 4 ≤ d + 1) (h : b_of_B17 l1 l2 M = some r) : I_RnE (I_Ex d) i_c35 (17, [some (.ref 0), some (.int l1), some (.int l2)], [], i_S X M) (some (.int r.1)) (i_S X r.2) := by
  unfold b_of_B17 at h
  refine i_rs 2 (cf' := (20, [some (.ref 0), some (.int l1), some (.int l2)], [.int (10 : Int32), .int l2], i_S X M)) rfl ?_
  by_cases c1 : l2 < (10 : Int32)
  · replace h := (if_pos c1).symm.trans h
    refine i_rbT (c := l2 < (10 : Int32)) (t := 36) (n := 23) rfl c1 ?_
    refine i_fg (lv' := [some (.ref 0), some (.int l1), some (.int l2)]) (And.intro rfl (And.intro rfl (And.intro rfl True.intro))) ?_
    exact ok_b_of_B36 (by omega) h
  · replace h := (if_neg c1).symm.trans h
    refine i_rbF (c := l2 < (10 : Int32)) (t := 36) (n := 23) rfl c1 ?_
    refine i_rs 2 (cf' := (26, [some (.ref 0), some (.int l1), some (.int l2)], [.int (20 : Int32), .int l2], i_S X M)) rfl ?_
    by_cases c2 : l2 < (20 : Int32)
    · replace h := (if_pos c2).symm.trans h
      refine i_rbT (c := l2 < (20 : Int32)) (t := 29) (n := 36) rfl c2 ?_
      refine i_rs 3 (cf' := (32, [some (.ref 0), some (.int l1), some (.int l2)], [.int l2, .int l1, .ref 0], i_S X M)) rfl ?_
      obtain ⟨q3, hq3, h⟩ := i_bdE h
      refine i_rcall (k := 37) (as := [.ref 0, .int l1, .int l2]) (cf1 := (35, [some (.ref 0), some (.int l1), some (.int l2)], [], i_S X M)) (cf' := (35, [some (.ref 0), some (.int l1), some (.int l2)], [.int q3.1], i_S X q3.2)) rfl (ok_b_ofBell (by omega) hq3) rfl ?_
      obtain rfl := Option.some.inj h
      exact i_rret rfl rfl
    · replace h := (if_neg c2).symm.trans h
      refine i_rbF (c := l2 < (20 : Int32)) (t := 29) (n := 36) rfl c2 ?_
      refine i_fg (lv' := [some (.ref 0), some (.int l1), some (.int l2)]) (And.intro rfl (And.intro rfl (And.intro rfl True.intro))) ?_
      exact ok_b_of_B36 (by omega) h
def b_of (l1 : Int32) (l2 : Int32) (M : I_M) : Option (Int32 × I_M) :=
  (if l2 < (0 : Int32) then
      b_of_B17 l1 l2 M
    else
      (if l2 < (10 : Int32) then
        Option.bind (b_ofCell l1 l2 M) (fun q12 => some (q12.1, q12.2))
      else
        b_of_B17 l1 l2 M))
theorem ok_b_of {X : Nat × (Nat → Int32)} {d : Nat} {l1 : Int32} {l2 : Int32} {M : I_M} {r : (Int32 × I_M)} (hd : 4 ≤ d) (h : b_of l1 l2 M = some r) : I_Ex d 35 [.ref 0, .int l1, .int l2] (i_S X M) (some (.int r.1)) (i_S X r.2) := by
  obtain ⟨d, rfl⟩ : ∃ d1, d = d1 + 1 := ⟨d - 1, by omega⟩
  unfold b_of at h
  refine i_ex (e := i_r35) (lv := [some (.ref 0), some (.int l1), some (.int l2)]) rfl (Nat.le_of_ble_eq_true rfl) rfl ?_
  show I_RnE (I_Ex d) i_c35 (0, [some (.ref 0), some (.int l1), some (.int l2)], [], i_S X M) _ _
  refine i_rs 1 (cf' := (1, [some (.ref 0), some (.int l1), some (.int l2)], [.int l2], i_S X M)) rfl ?_
  by_cases c10 : l2 < (0 : Int32)
  · replace h := (if_pos c10).symm.trans h
    refine i_rbT (c := l2 < (0 : Int32)) (t := 17) (n := 4) rfl c10 ?_
    refine i_fg (lv' := [some (.ref 0), some (.int l1), some (.int l2)]) (And.intro rfl (And.intro rfl (And.intro rfl True.intro))) ?_
    exact ok_b_of_B17 (by omega) h
  · replace h := (if_neg c10).symm.trans h
    refine i_rbF (c := l2 < (0 : Int32)) (t := 17) (n := 4) rfl c10 ?_
    refine i_rs 2 (cf' := (7, [some (.ref 0), some (.int l1), some (.int l2)], [.int (10 : Int32), .int l2], i_S X M)) rfl ?_
    by_cases c11 : l2 < (10 : Int32)
    · replace h := (if_pos c11).symm.trans h
      refine i_rbT (c := l2 < (10 : Int32)) (t := 10) (n := 17) rfl c11 ?_
      refine i_rs 3 (cf' := (13, [some (.ref 0), some (.int l1), some (.int l2)], [.int l2, .int l1, .ref 0], i_S X M)) rfl ?_
      obtain ⟨q12, hq12, h⟩ := i_bdE h
      refine i_rcall (k := 36) (as := [.ref 0, .int l1, .int l2]) (cf1 := (16, [some (.ref 0), some (.int l1), some (.int l2)], [], i_S X M)) (cf' := (16, [some (.ref 0), some (.int l1), some (.int l2)], [.int q12.1], i_S X q12.2)) rfl (ok_b_ofCell (by omega) hq12) rfl ?_
      obtain rfl := Option.some.inj h
      exact i_rret rfl rfl
    · replace h := (if_neg c11).symm.trans h
      refine i_rbF (c := l2 < (10 : Int32)) (t := 10) (n := 17) rfl c11 ?_
      refine i_fg (lv' := [some (.ref 0), some (.int l1), some (.int l2)]) (And.intro rfl (And.intro rfl (And.intro rfl True.intro))) ?_
      exact ok_b_of_B17 (by omega) h
def r_isIn (l0 : Int32) (l1 : Int32) (M : I_M) : Option (Int32 × I_M) :=
  (if ((l0 >>> (l1 &&& 31)) &&& (1 : Int32)) = (1 : Int32) then
      some ((1 : Int32), M)
    else
      some ((0 : Int32), M))
theorem ok_r_isIn {X : Nat × (Nat → Int32)} {d : Nat} {l0 : Int32} {l1 : Int32} {M : I_M} {r : (Int32 × I_M)} (hd : 1 ≤ d) (h : r_isIn l0 l1 M = some r) : I_Ex d 188 [.int l0, .int l1] (i_S X M) (some (.int r.1)) (i_S X r.2) := by
  obtain ⟨d, rfl⟩ : ∃ d1, d = d1 + 1 := ⟨d - 1, by omega⟩
  unfold r_isIn at h
  refine i_ex (e := i_r188) (lv := [some (.int l0), some (.int l1)]) rfl (Nat.le_of_ble_eq_true rfl) rfl ?_
  show I_RnE (I_Ex d) i_c188 (0, [some (.int l0), some (.int l1)], [], i_S X M) _ _
  refine i_rs 6 (cf' := (6, [some (.int l0), some (.int l1)], [.int (1 : Int32), .int ((l0 >>> (l1 &&& 31)) &&& (1 : Int32))], i_S X M)) rfl ?_
  by_cases c1 : ((l0 >>> (l1 &&& 31)) &&& (1 : Int32)) = (1 : Int32)
  · replace h := (if_pos c1).symm.trans h
    refine i_rbT (c := ((l0 >>> (l1 &&& 31)) &&& (1 : Int32)) = (1 : Int32)) (t := 9) (n := 13) rfl c1 ?_
    refine i_rs 2 (cf' := (14, [some (.int l0), some (.int l1)], [.int (1 : Int32)], i_S X M)) rfl ?_
    obtain rfl := Option.some.inj h
    exact i_rretZ rfl (Or.inr rfl) rfl
  · replace h := (if_neg c1).symm.trans h
    refine i_rbF (c := ((l0 >>> (l1 &&& 31)) &&& (1 : Int32)) = (1 : Int32)) (t := 9) (n := 13) rfl c1 ?_
    refine i_rs 1 (cf' := (14, [some (.int l0), some (.int l1)], [.int (0 : Int32)], i_S X M)) rfl ?_
    obtain rfl := Option.some.inj h
    exact i_rretZ rfl (Or.inl rfl) rfl
def r_ofBell (l1 : Int32) (l2 : Int32) (M : I_M) : Option (Int32 × I_M) :=
  (if l2 = (10 : Int32) then
      i_g l1 6 (some ((M.1 55 (Int32.toNatClampNeg l1)), M))
    else
      (if l2 = (11 : Int32) then
        i_g l1 6 (some ((M.1 56 (Int32.toNatClampNeg l1)), M))
      else
        (if l2 = (12 : Int32) then
          i_g ((50 : Int32) + l1) 60 (some ((M.1 51 (Int32.toNatClampNeg ((50 : Int32) + l1))), M))
        else
          (if l2 = (13 : Int32) then
            i_g l1 6 (some ((M.1 57 (Int32.toNatClampNeg l1)), M))
          else
            Option.bind (r_isIn (M.1 50 12) l1 M) (fun q9 => (if q9.1 = (0 : Int32) then
              some ((0 : Int32), q9.2)
            else
              some ((1 : Int32), q9.2)))))))
theorem ok_r_ofBell {X : Nat × (Nat → Int32)} {d : Nat} {l1 : Int32} {l2 : Int32} {M : I_M} {r : (Int32 × I_M)} (hd : 2 ≤ d) (h : r_ofBell l1 l2 M = some r) : I_Ex d 187 [.ref 50, .int l1, .int l2] (i_S X M) (some (.int r.1)) (i_S X r.2) := by
  obtain ⟨d, rfl⟩ : ∃ d1, d = d1 + 1 := ⟨d - 1, by omega⟩
  unfold r_ofBell at h
  refine i_ex (e := i_r187) (lv := [some (.ref 50), some (.int l1), some (.int l2)]) rfl (Nat.le_of_ble_eq_true rfl) rfl ?_
  show I_RnE (I_Ex d) i_c187 (0, [some (.ref 50), some (.int l1), some (.int l2)], [], i_S X M) _ _
  refine i_rs 1 (cf' := (1, [some (.ref 50), some (.int l1), some (.int l2)], [.int l2], i_S X M)) rfl ?_
  refine i_stp1 (cf' := (i_sw l2 63 [(10, 32), (11, 39), (12, 46), (13, 56)], [some (.ref 50), some (.int l1), some (.int l2)], [], i_S X M)) rfl ?_
  by_cases c1 : l2 = (10 : Int32)
  · replace h := (if_pos c1).symm.trans h
    refine i_rswT c1 ?_
    refine i_rs 3 (cf' := (37, [some (.ref 50), some (.int l1), some (.int l2)], [.int l1, .ref 55], i_S X M)) rfl ?_
    obtain ⟨g2, h⟩ := i_gE h
    refine i_riald (n := 6) (cf' := (38, [some (.ref 50), some (.int l1), some (.int l2)], [.int (M.1 55 (Int32.toNatClampNeg l1))], i_S X M)) rfl rfl (by decide) g2 rfl ?_
    obtain rfl := Option.some.inj h
    exact i_rret rfl rfl
  · replace h := (if_neg c1).symm.trans h
    refine i_rswF c1 ?_
    by_cases c3 : l2 = (11 : Int32)
    · replace h := (if_pos c3).symm.trans h
      refine i_rswT c3 ?_
      refine i_rs 3 (cf' := (44, [some (.ref 50), some (.int l1), some (.int l2)], [.int l1, .ref 56], i_S X M)) rfl ?_
      obtain ⟨g4, h⟩ := i_gE h
      refine i_riald (n := 6) (cf' := (45, [some (.ref 50), some (.int l1), some (.int l2)], [.int (M.1 56 (Int32.toNatClampNeg l1))], i_S X M)) rfl rfl (by decide) g4 rfl ?_
      obtain rfl := Option.some.inj h
      exact i_rret rfl rfl
    · replace h := (if_neg c3).symm.trans h
      refine i_rswF c3 ?_
      by_cases c5 : l2 = (12 : Int32)
      · replace h := (if_pos c5).symm.trans h
        refine i_rswT c5 ?_
        refine i_rs 5 (cf' := (54, [some (.ref 50), some (.int l1), some (.int l2)], [.int ((50 : Int32) + l1), .ref 51], i_S X M)) rfl ?_
        obtain ⟨g6, h⟩ := i_gE h
        refine i_riald (n := 60) (cf' := (55, [some (.ref 50), some (.int l1), some (.int l2)], [.int (M.1 51 (Int32.toNatClampNeg ((50 : Int32) + l1)))], i_S X M)) rfl rfl (by decide) g6 rfl ?_
        obtain rfl := Option.some.inj h
        exact i_rret rfl rfl
      · replace h := (if_neg c5).symm.trans h
        refine i_rswF c5 ?_
        by_cases c7 : l2 = (13 : Int32)
        · replace h := (if_pos c7).symm.trans h
          refine i_rswT c7 ?_
          refine i_rs 3 (cf' := (61, [some (.ref 50), some (.int l1), some (.int l2)], [.int l1, .ref 57], i_S X M)) rfl ?_
          obtain ⟨g8, h⟩ := i_gE h
          refine i_riald (n := 6) (cf' := (62, [some (.ref 50), some (.int l1), some (.int l2)], [.int (M.1 57 (Int32.toNatClampNeg l1))], i_S X M)) rfl rfl (by decide) g8 rfl ?_
          obtain rfl := Option.some.inj h
          exact i_rret rfl rfl
        · replace h := (if_neg c7).symm.trans h
          refine i_rswF c7 ?_
          refine i_rs 3 (cf' := (68, [some (.ref 50), some (.int l1), some (.int l2)], [.int l1, .int (M.1 50 12)], i_S X M)) rfl ?_
          obtain ⟨q9, hq9, h⟩ := i_bdE h
          refine i_rcall (k := 188) (as := [.int (M.1 50 12), .int l1]) (cf1 := (71, [some (.ref 50), some (.int l1), some (.int l2)], [], i_S X M)) (cf' := (71, [some (.ref 50), some (.int l1), some (.int l2)], [.int q9.1], i_S X q9.2)) rfl (ok_r_isIn (by omega) hq9) rfl ?_
          by_cases c10 : q9.1 = (0 : Int32)
          · replace h := (if_pos c10).symm.trans h
            refine i_rbT (c := q9.1 = (0 : Int32)) (t := 78) (n := 74) rfl c10 ?_
            refine i_rs 1 (cf' := (79, [some (.ref 50), some (.int l1), some (.int l2)], [.int (0 : Int32)], i_S X q9.2)) rfl ?_
            obtain rfl := Option.some.inj h
            exact i_rret rfl rfl
          · replace h := (if_neg c10).symm.trans h
            refine i_rbF (c := q9.1 = (0 : Int32)) (t := 78) (n := 74) rfl c10 ?_
            refine i_rs 2 (cf' := (79, [some (.ref 50), some (.int l1), some (.int l2)], [.int (1 : Int32)], i_S X q9.2)) rfl ?_
            obtain rfl := Option.some.inj h
            exact i_rret rfl rfl
def r_of (l1 : Int32) (l2 : Int32) (M : I_M) : Option (Int32 × I_M) :=
  Option.bind (r_within (Int32.toInt64 l2) (0 : Int64) (1 : Int64) M) (fun q1 => (if q1.1 = (0 : Int32) then
      Option.bind (r_within (Int32.toInt64 l2) (10 : Int64) (14 : Int64) q1.2) (fun q3 => (if q3.1 = (0 : Int32) then
        Option.bind (r_within (Int32.toInt64 l2) (20 : Int64) (24 : Int64) q3.2) (fun q5 => (if q5.1 = (0 : Int32) then
          Option.bind (r_within (Int32.toInt64 l2) (30 : Int64) (32 : Int64) q5.2) (fun q7 => (if q7.1 = (0 : Int32) then
            some ((-1 : Int32), q7.2)
          else
            Option.bind (r_within (Int32.toInt64 l1) (0 : Int64) (Int32.toInt64 ((q7.2.1 50 24) - (1 : Int32))) q7.2) (fun q9 => (if q9.1 = (0 : Int32) then
              some ((-1 : Int32), q9.2)
            else
              i_g ((((3 : Int32) * l1) + l2) - (30 : Int32)) 30 (some ((q9.2.1 61 (Int32.toNatClampNeg ((((3 : Int32) * l1) + l2) - (30 : Int32)))), q9.2))))))
        else
          (if l1 = (0 : Int32) then
            (if l2 = (24 : Int32) then
              some ((q5.2.1 50 13), q5.2)
            else
              i_g (((56 : Int32) + l2) - (20 : Int32)) 60 (some ((q5.2.1 51 (Int32.toNatClampNeg (((56 : Int32) + l2) - (20 : Int32)))), q5.2)))
          else
            some ((-1 : Int32), q5.2))))
      else
        Option.bind (r_isBell l1 q3.2) (fun q15 => (if q15.1 = (0 : Int32) then
          some ((-1 : Int32), q15.2)
        else
          Option.bind (r_ofBell l1 l2 q15.2) (fun q17 => some (q17.1, q17.2))))))
    else
      Option.bind (r_isCell l1 q1.2) (fun q18 => (if q18.1 = (0 : Int32) then
        some ((-1 : Int32), q18.2)
      else
        i_g (((25 : Int32) * l2) + l1) 60 (some ((q18.2.1 51 (Int32.toNatClampNeg (((25 : Int32) * l2) + l1))), q18.2))))))
theorem ok_r_of {X : Nat × (Nat → Int32)} {d : Nat} {l1 : Int32} {l2 : Int32} {M : I_M} {r : (Int32 × I_M)} (hd : 3 ≤ d) (h : r_of l1 l2 M = some r) : I_Ex d 186 [.ref 50, .int l1, .int l2] (i_S X M) (some (.int r.1)) (i_S X r.2) := by
  obtain ⟨d, rfl⟩ : ∃ d1, d = d1 + 1 := ⟨d - 1, by omega⟩
  unfold r_of at h
  refine i_ex (e := i_r186) (lv := [some (.ref 50), some (.int l1), some (.int l2)]) rfl (Nat.le_of_ble_eq_true rfl) rfl ?_
  show I_RnE (I_Ex d) i_c186 (0, [some (.ref 50), some (.int l1), some (.int l2)], [], i_S X M) _ _
  refine i_rs 4 (cf' := (4, [some (.ref 50), some (.int l1), some (.int l2)], [.long (1 : Int64), .long (0 : Int64), .long (Int32.toInt64 l2)], i_S X M)) rfl ?_
  obtain ⟨q1, hq1, h⟩ := i_bdE h
  refine i_rcall (k := 175) (as := [.long (Int32.toInt64 l2), .long (0 : Int64), .long (1 : Int64)]) (cf1 := (7, [some (.ref 50), some (.int l1), some (.int l2)], [], i_S X M)) (cf' := (7, [some (.ref 50), some (.int l1), some (.int l2)], [.int q1.1], i_S X q1.2)) rfl (ok_r_within (by omega) hq1) rfl ?_
  by_cases c2 : q1.1 = (0 : Int32)
  · replace h := (if_pos c2).symm.trans h
    refine i_rbT (c := q1.1 = (0 : Int32)) (t := 34) (n := 10) rfl c2 ?_
    refine i_rs 4 (cf' := (42, [some (.ref 50), some (.int l1), some (.int l2)], [.long (14 : Int64), .long (10 : Int64), .long (Int32.toInt64 l2)], i_S X q1.2)) rfl ?_
    obtain ⟨q3, hq3, h⟩ := i_bdE h
    refine i_rcall (k := 175) (as := [.long (Int32.toInt64 l2), .long (10 : Int64), .long (14 : Int64)]) (cf1 := (45, [some (.ref 50), some (.int l1), some (.int l2)], [], i_S X q1.2)) (cf' := (45, [some (.ref 50), some (.int l1), some (.int l2)], [.int q3.1], i_S X q3.2)) rfl (ok_r_within (by omega) hq3) rfl ?_
    by_cases c4 : q3.1 = (0 : Int32)
    · replace h := (if_pos c4).symm.trans h
      refine i_rbT (c := q3.1 = (0 : Int32)) (t := 67) (n := 48) rfl c4 ?_
      refine i_rs 4 (cf' := (75, [some (.ref 50), some (.int l1), some (.int l2)], [.long (24 : Int64), .long (20 : Int64), .long (Int32.toInt64 l2)], i_S X q3.2)) rfl ?_
      obtain ⟨q5, hq5, h⟩ := i_bdE h
      refine i_rcall (k := 175) (as := [.long (Int32.toInt64 l2), .long (20 : Int64), .long (24 : Int64)]) (cf1 := (78, [some (.ref 50), some (.int l1), some (.int l2)], [], i_S X q3.2)) (cf' := (78, [some (.ref 50), some (.int l1), some (.int l2)], [.int q5.1], i_S X q5.2)) rfl (ok_r_within (by omega) hq5) rfl ?_
      by_cases c6 : q5.1 = (0 : Int32)
      · replace h := (if_pos c6).symm.trans h
        refine i_rbT (c := q5.1 = (0 : Int32)) (t := 115) (n := 81) rfl c6 ?_
        refine i_rs 4 (cf' := (123, [some (.ref 50), some (.int l1), some (.int l2)], [.long (32 : Int64), .long (30 : Int64), .long (Int32.toInt64 l2)], i_S X q5.2)) rfl ?_
        obtain ⟨q7, hq7, h⟩ := i_bdE h
        refine i_rcall (k := 175) (as := [.long (Int32.toInt64 l2), .long (30 : Int64), .long (32 : Int64)]) (cf1 := (126, [some (.ref 50), some (.int l1), some (.int l2)], [], i_S X q5.2)) (cf' := (126, [some (.ref 50), some (.int l1), some (.int l2)], [.int q7.1], i_S X q7.2)) rfl (ok_r_within (by omega) hq7) rfl ?_
        by_cases c8 : q7.1 = (0 : Int32)
        · replace h := (if_pos c8).symm.trans h
          refine i_rbT (c := q7.1 = (0 : Int32)) (t := 161) (n := 129) rfl c8 ?_
          refine i_rs 1 (cf' := (162, [some (.ref 50), some (.int l1), some (.int l2)], [.int (-1 : Int32)], i_S X q7.2)) rfl ?_
          obtain rfl := Option.some.inj h
          exact i_rret rfl rfl
        · replace h := (if_neg c8).symm.trans h
          refine i_rbF (c := q7.1 = (0 : Int32)) (t := 161) (n := 129) rfl c8 ?_
          refine i_rs 8 (cf' := (139, [some (.ref 50), some (.int l1), some (.int l2)], [.long (Int32.toInt64 ((q7.2.1 50 24) - (1 : Int32))), .long (0 : Int64), .long (Int32.toInt64 l1)], i_S X q7.2)) rfl ?_
          obtain ⟨q9, hq9, h⟩ := i_bdE h
          refine i_rcall (k := 175) (as := [.long (Int32.toInt64 l1), .long (0 : Int64), .long (Int32.toInt64 ((q7.2.1 50 24) - (1 : Int32)))]) (cf1 := (142, [some (.ref 50), some (.int l1), some (.int l2)], [], i_S X q7.2)) (cf' := (142, [some (.ref 50), some (.int l1), some (.int l2)], [.int q9.1], i_S X q9.2)) rfl (ok_r_within (by omega) hq9) rfl ?_
          by_cases c10 : q9.1 = (0 : Int32)
          · replace h := (if_pos c10).symm.trans h
            refine i_rbT (c := q9.1 = (0 : Int32)) (t := 161) (n := 145) rfl c10 ?_
            refine i_rs 1 (cf' := (162, [some (.ref 50), some (.int l1), some (.int l2)], [.int (-1 : Int32)], i_S X q9.2)) rfl ?_
            obtain rfl := Option.some.inj h
            exact i_rret rfl rfl
          · replace h := (if_neg c10).symm.trans h
            refine i_rbF (c := q9.1 = (0 : Int32)) (t := 161) (n := 145) rfl c10 ?_
            refine i_rs 9 (cf' := (157, [some (.ref 50), some (.int l1), some (.int l2)], [.int ((((3 : Int32) * l1) + l2) - (30 : Int32)), .ref 61], i_S X q9.2)) rfl ?_
            obtain ⟨g11, h⟩ := i_gE h
            refine i_riald (n := 30) (cf' := (158, [some (.ref 50), some (.int l1), some (.int l2)], [.int (q9.2.1 61 (Int32.toNatClampNeg ((((3 : Int32) * l1) + l2) - (30 : Int32))))], i_S X q9.2)) rfl rfl (by decide) g11 rfl ?_
            refine i_rs 1 (cf' := (162, [some (.ref 50), some (.int l1), some (.int l2)], [.int (q9.2.1 61 (Int32.toNatClampNeg ((((3 : Int32) * l1) + l2) - (30 : Int32))))], i_S X q9.2)) rfl ?_
            obtain rfl := Option.some.inj h
            exact i_rret rfl rfl
      · replace h := (if_neg c6).symm.trans h
        refine i_rbF (c := q5.1 = (0 : Int32)) (t := 115) (n := 81) rfl c6 ?_
        refine i_rs 1 (cf' := (82, [some (.ref 50), some (.int l1), some (.int l2)], [.int l1], i_S X q5.2)) rfl ?_
        by_cases c12 : l1 = (0 : Int32)
        · replace h := (if_pos c12).symm.trans h
          refine i_rbT (c := l1 = (0 : Int32)) (t := 89) (n := 85) rfl c12 ?_
          refine i_rs 2 (cf' := (92, [some (.ref 50), some (.int l1), some (.int l2)], [.int (24 : Int32), .int l2], i_S X q5.2)) rfl ?_
          by_cases c13 : l2 = (24 : Int32)
          · replace h := (if_pos c13).symm.trans h
            refine i_rbT (c := l2 = (24 : Int32)) (t := 95) (n := 102) rfl c13 ?_
            refine i_rs 3 (cf' := (114, [some (.ref 50), some (.int l1), some (.int l2)], [.int (q5.2.1 50 13)], i_S X q5.2)) rfl ?_
            obtain rfl := Option.some.inj h
            exact i_rret rfl rfl
          · replace h := (if_neg c13).symm.trans h
            refine i_rbF (c := l2 = (24 : Int32)) (t := 95) (n := 102) rfl c13 ?_
            refine i_rs 7 (cf' := (113, [some (.ref 50), some (.int l1), some (.int l2)], [.int (((56 : Int32) + l2) - (20 : Int32)), .ref 51], i_S X q5.2)) rfl ?_
            obtain ⟨g14, h⟩ := i_gE h
            refine i_riald (n := 60) (cf' := (114, [some (.ref 50), some (.int l1), some (.int l2)], [.int (q5.2.1 51 (Int32.toNatClampNeg (((56 : Int32) + l2) - (20 : Int32))))], i_S X q5.2)) rfl rfl (by decide) g14 rfl ?_
            obtain rfl := Option.some.inj h
            exact i_rret rfl rfl
        · replace h := (if_neg c12).symm.trans h
          refine i_rbF (c := l1 = (0 : Int32)) (t := 89) (n := 85) rfl c12 ?_
          refine i_rs 2 (cf' := (114, [some (.ref 50), some (.int l1), some (.int l2)], [.int (-1 : Int32)], i_S X q5.2)) rfl ?_
          obtain rfl := Option.some.inj h
          exact i_rret rfl rfl
    · replace h := (if_neg c4).symm.trans h
      refine i_rbF (c := q3.1 = (0 : Int32)) (t := 67) (n := 48) rfl c4 ?_
      refine i_rs 2 (cf' := (50, [some (.ref 50), some (.int l1), some (.int l2)], [.int l1, .ref 50], i_S X q3.2)) rfl ?_
      obtain ⟨q15, hq15, h⟩ := i_bdE h
      refine i_rcall (k := 185) (as := [.ref 50, .int l1]) (cf1 := (53, [some (.ref 50), some (.int l1), some (.int l2)], [], i_S X q3.2)) (cf' := (53, [some (.ref 50), some (.int l1), some (.int l2)], [.int q15.1], i_S X q15.2)) rfl (ok_r_isBell (by omega) hq15) rfl ?_
      by_cases c16 : q15.1 = (0 : Int32)
      · replace h := (if_pos c16).symm.trans h
        refine i_rbT (c := q15.1 = (0 : Int32)) (t := 65) (n := 56) rfl c16 ?_
        refine i_rs 1 (cf' := (66, [some (.ref 50), some (.int l1), some (.int l2)], [.int (-1 : Int32)], i_S X q15.2)) rfl ?_
        obtain rfl := Option.some.inj h
        exact i_rret rfl rfl
      · replace h := (if_neg c16).symm.trans h
        refine i_rbF (c := q15.1 = (0 : Int32)) (t := 65) (n := 56) rfl c16 ?_
        refine i_rs 3 (cf' := (59, [some (.ref 50), some (.int l1), some (.int l2)], [.int l2, .int l1, .ref 50], i_S X q15.2)) rfl ?_
        obtain ⟨q17, hq17, h⟩ := i_bdE h
        refine i_rcall (k := 187) (as := [.ref 50, .int l1, .int l2]) (cf1 := (62, [some (.ref 50), some (.int l1), some (.int l2)], [], i_S X q15.2)) (cf' := (62, [some (.ref 50), some (.int l1), some (.int l2)], [.int q17.1], i_S X q17.2)) rfl (ok_r_ofBell (by omega) hq17) rfl ?_
        refine i_rs 1 (cf' := (66, [some (.ref 50), some (.int l1), some (.int l2)], [.int q17.1], i_S X q17.2)) rfl ?_
        obtain rfl := Option.some.inj h
        exact i_rret rfl rfl
  · replace h := (if_neg c2).symm.trans h
    refine i_rbF (c := q1.1 = (0 : Int32)) (t := 34) (n := 10) rfl c2 ?_
    refine i_rs 2 (cf' := (12, [some (.ref 50), some (.int l1), some (.int l2)], [.int l1, .ref 50], i_S X q1.2)) rfl ?_
    obtain ⟨q18, hq18, h⟩ := i_bdE h
    refine i_rcall (k := 183) (as := [.ref 50, .int l1]) (cf1 := (15, [some (.ref 50), some (.int l1), some (.int l2)], [], i_S X q1.2)) (cf' := (15, [some (.ref 50), some (.int l1), some (.int l2)], [.int q18.1], i_S X q18.2)) rfl (ok_r_isCell (by omega) hq18) rfl ?_
    by_cases c19 : q18.1 = (0 : Int32)
    · replace h := (if_pos c19).symm.trans h
      refine i_rbT (c := q18.1 = (0 : Int32)) (t := 32) (n := 18) rfl c19 ?_
      refine i_rs 1 (cf' := (33, [some (.ref 50), some (.int l1), some (.int l2)], [.int (-1 : Int32)], i_S X q18.2)) rfl ?_
      obtain rfl := Option.some.inj h
      exact i_rret rfl rfl
    · replace h := (if_neg c19).symm.trans h
      refine i_rbF (c := q18.1 = (0 : Int32)) (t := 32) (n := 18) rfl c19 ?_
      refine i_rs 7 (cf' := (28, [some (.ref 50), some (.int l1), some (.int l2)], [.int (((25 : Int32) * l2) + l1), .ref 51], i_S X q18.2)) rfl ?_
      obtain ⟨g20, h⟩ := i_gE h
      refine i_riald (n := 60) (cf' := (29, [some (.ref 50), some (.int l1), some (.int l2)], [.int (q18.2.1 51 (Int32.toNatClampNeg (((25 : Int32) * l2) + l1)))], i_S X q18.2)) rfl rfl (by decide) g20 rfl ?_
      refine i_rs 1 (cf' := (33, [some (.ref 50), some (.int l1), some (.int l2)], [.int (q18.2.1 51 (Int32.toNatClampNeg (((25 : Int32) * l2) + l1)))], i_S X q18.2)) rfl ?_
      obtain rfl := Option.some.inj h
      exact i_rret rfl rfl
