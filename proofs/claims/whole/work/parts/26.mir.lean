/-! ===== part 26: mirrors and what they say (written by wip/whole/mir.py) ===== -/
def w_law_B1443 (X : Nat × (Nat → Int32)) (self : Int32 → I_M → Option (Int32 × I_M)) (l3 : Int32) (M : I_M) : Option (Int32 × I_M) :=
  i_g (l3 + (1 : Int32)) X.1 (Option.bind (b_count (X.2 (Int32.toNatClampNeg (l3 + (1 : Int32)))) M) (fun q99 => Option.bind (r_count (X.2 (Int32.toNatClampNeg (l3 + (1 : Int32)))) q99.2) (fun q100 => (if q99.1 = q100.1 then
      self (l3 + (6 : Int32)) q100.2
    else
      some ((0 : Int32), q100.2)))))
set_option maxHeartbeats 20000000 in
set_option maxRecDepth 100000 in
theorem ok_w_law_B1443 {X : Nat × (Nat → Int32)} {d : Nat} {self : Int32 → I_M → Option (Int32 × I_M)} {l3 : Int32} {M : I_M} {r : (Int32 × I_M)} (hself : ∀ (m3 : Int32) (M : I_M) (r : (Int32 × I_M)), self m3 M = some r → I_RnE (I_Ex d) i_c266 (18, [some (.ref 100), some (.ref 0), some (.ref 50), some (.int m3)], [], i_S X M) (some (.int r.1)) (i_S X r.2)) (hd : 81 ≤ d + 1) (h : w_law_B1443 X self l3 M = some r) : I_RnE (I_Ex d) i_c266 (1443, [some (.ref 100), some (.ref 0), some (.ref 50), some (.int l3)], [], i_S X M) (some (.int r.1)) (i_S X r.2) := by
  unfold w_law_B1443 at h
  refine i_rs 5 (cf' := (1448, [some (.ref 100), some (.ref 0), some (.ref 50), some (.int l3)], [.int (l3 + (1 : Int32)), .ref 100, .ref 0], i_S X M)) rfl ?_
  obtain ⟨g98, h⟩ := i_gE h
  refine i_riald (n := X.1) (cf' := (1449, [some (.ref 100), some (.ref 0), some (.ref 50), some (.int l3)], [.int (X.2 (Int32.toNatClampNeg (l3 + (1 : Int32)))), .ref 0], i_S X M)) rfl rfl (by decide) g98 rfl ?_
  obtain ⟨q99, hq99, h⟩ := i_bdE h
  refine i_rcall (k := 169) (as := [.ref 0, .int (X.2 (Int32.toNatClampNeg (l3 + (1 : Int32))))]) (cf1 := (1452, [some (.ref 100), some (.ref 0), some (.ref 50), some (.int l3)], [], i_S X M)) (cf' := (1452, [some (.ref 100), some (.ref 0), some (.ref 50), some (.int l3)], [.int q99.1], i_S X q99.2)) rfl (ok_b_count (by omega) hq99) rfl ?_
  refine i_rs 5 (cf' := (1457, [some (.ref 100), some (.ref 0), some (.ref 50), some (.int l3)], [.int (l3 + (1 : Int32)), .ref 100, .ref 50, .int q99.1], i_S X q99.2)) rfl ?_
  refine i_riald (n := X.1) (cf' := (1458, [some (.ref 100), some (.ref 0), some (.ref 50), some (.int l3)], [.int (X.2 (Int32.toNatClampNeg (l3 + (1 : Int32)))), .ref 50, .int q99.1], i_S X q99.2)) rfl rfl (by decide) g98 rfl ?_
  obtain ⟨q100, hq100, h⟩ := i_bdE h
  refine i_rcall (k := 265) (as := [.ref 50, .int (X.2 (Int32.toNatClampNeg (l3 + (1 : Int32))))]) (cf1 := (1461, [some (.ref 100), some (.ref 0), some (.ref 50), some (.int l3)], [.int q99.1], i_S X q99.2)) (cf' := (1461, [some (.ref 100), some (.ref 0), some (.ref 50), some (.int l3)], [.int q100.1, .int q99.1], i_S X q100.2)) rfl (ok_r_count (by omega) hq100) rfl ?_
  by_cases c101 : q99.1 = q100.1
  · replace h := (if_pos c101).symm.trans h
    refine i_rbT (c := q99.1 = q100.1) (t := 1466) (n := 1464) rfl c101 ?_
    refine i_rs 2 (cf' := (18, [some (.ref 100), some (.ref 0), some (.ref 50), some (.int (l3 + (6 : Int32)))], [], i_S X q100.2)) rfl ?_
    refine i_fg (lv' := [some (.ref 100), some (.ref 0), some (.ref 50), some (.int (l3 + (6 : Int32)))]) (And.intro rfl (And.intro rfl (And.intro rfl (And.intro rfl True.intro)))) ?_
    exact hself (l3 + (6 : Int32)) q100.2 _ h
  · replace h := (if_neg c101).symm.trans h
    refine i_rbF (c := q99.1 = q100.1) (t := 1466) (n := 1464) rfl c101 ?_
    refine i_rs 1 (cf' := (1465, [some (.ref 100), some (.ref 0), some (.ref 50), some (.int l3)], [.int (0 : Int32)], i_S X q100.2)) rfl ?_
    obtain rfl := Option.some.inj h
    exact i_rretZ rfl (Or.inl rfl) rfl
def w_law_B1410 (X : Nat × (Nat → Int32)) (self : Int32 → I_M → Option (Int32 × I_M)) (l3 : Int32) (M : I_M) : Option (Int32 × I_M) :=
  i_g (l3 + (1 : Int32)) X.1 (i_g (l3 + (2 : Int32)) X.1 (Option.bind (b_taken (X.2 (Int32.toNatClampNeg (l3 + (1 : Int32)))) (X.2 (Int32.toNatClampNeg (l3 + (2 : Int32)))) M) (fun q46 => Option.bind (r_taken (X.2 (Int32.toNatClampNeg (l3 + (1 : Int32)))) (X.2 (Int32.toNatClampNeg (l3 + (2 : Int32)))) q46.2) (fun q47 => (if q46.1 = q47.1 then
      self (l3 + (6 : Int32)) q47.2
    else
      some ((0 : Int32), q47.2))))))
set_option maxHeartbeats 20000000 in
set_option maxRecDepth 100000 in
theorem ok_w_law_B1410 {X : Nat × (Nat → Int32)} {d : Nat} {self : Int32 → I_M → Option (Int32 × I_M)} {l3 : Int32} {M : I_M} {r : (Int32 × I_M)} (hself : ∀ (m3 : Int32) (M : I_M) (r : (Int32 × I_M)), self m3 M = some r → I_RnE (I_Ex d) i_c266 (18, [some (.ref 100), some (.ref 0), some (.ref 50), some (.int m3)], [], i_S X M) (some (.int r.1)) (i_S X r.2)) (hd : 81 ≤ d + 1) (h : w_law_B1410 X self l3 M = some r) : I_RnE (I_Ex d) i_c266 (1410, [some (.ref 100), some (.ref 0), some (.ref 50), some (.int l3)], [], i_S X M) (some (.int r.1)) (i_S X r.2) := by
  unfold w_law_B1410 at h
  refine i_rs 5 (cf' := (1415, [some (.ref 100), some (.ref 0), some (.ref 50), some (.int l3)], [.int (l3 + (1 : Int32)), .ref 100, .ref 0], i_S X M)) rfl ?_
  obtain ⟨g44, h⟩ := i_gE h
  refine i_riald (n := X.1) (cf' := (1416, [some (.ref 100), some (.ref 0), some (.ref 50), some (.int l3)], [.int (X.2 (Int32.toNatClampNeg (l3 + (1 : Int32)))), .ref 0], i_S X M)) rfl rfl (by decide) g44 rfl ?_
  refine i_rs 4 (cf' := (1420, [some (.ref 100), some (.ref 0), some (.ref 50), some (.int l3)], [.int (l3 + (2 : Int32)), .ref 100, .int (X.2 (Int32.toNatClampNeg (l3 + (1 : Int32)))), .ref 0], i_S X M)) rfl ?_
  obtain ⟨g45, h⟩ := i_gE h
  refine i_riald (n := X.1) (cf' := (1421, [some (.ref 100), some (.ref 0), some (.ref 50), some (.int l3)], [.int (X.2 (Int32.toNatClampNeg (l3 + (2 : Int32)))), .int (X.2 (Int32.toNatClampNeg (l3 + (1 : Int32)))), .ref 0], i_S X M)) rfl rfl (by decide) g45 rfl ?_
  obtain ⟨q46, hq46, h⟩ := i_bdE h
  refine i_rcall (k := 167) (as := [.ref 0, .int (X.2 (Int32.toNatClampNeg (l3 + (1 : Int32)))), .int (X.2 (Int32.toNatClampNeg (l3 + (2 : Int32))))]) (cf1 := (1424, [some (.ref 100), some (.ref 0), some (.ref 50), some (.int l3)], [], i_S X M)) (cf' := (1424, [some (.ref 100), some (.ref 0), some (.ref 50), some (.int l3)], [.int q46.1], i_S X q46.2)) rfl (ok_b_taken (by omega) hq46) rfl ?_
  refine i_rs 5 (cf' := (1429, [some (.ref 100), some (.ref 0), some (.ref 50), some (.int l3)], [.int (l3 + (1 : Int32)), .ref 100, .ref 50, .int q46.1], i_S X q46.2)) rfl ?_
  refine i_riald (n := X.1) (cf' := (1430, [some (.ref 100), some (.ref 0), some (.ref 50), some (.int l3)], [.int (X.2 (Int32.toNatClampNeg (l3 + (1 : Int32)))), .ref 50, .int q46.1], i_S X q46.2)) rfl rfl (by decide) g44 rfl ?_
  refine i_rs 4 (cf' := (1434, [some (.ref 100), some (.ref 0), some (.ref 50), some (.int l3)], [.int (l3 + (2 : Int32)), .ref 100, .int (X.2 (Int32.toNatClampNeg (l3 + (1 : Int32)))), .ref 50, .int q46.1], i_S X q46.2)) rfl ?_
  refine i_riald (n := X.1) (cf' := (1435, [some (.ref 100), some (.ref 0), some (.ref 50), some (.int l3)], [.int (X.2 (Int32.toNatClampNeg (l3 + (2 : Int32)))), .int (X.2 (Int32.toNatClampNeg (l3 + (1 : Int32)))), .ref 50, .int q46.1], i_S X q46.2)) rfl rfl (by decide) g45 rfl ?_
  obtain ⟨q47, hq47, h⟩ := i_bdE h
  refine i_rcall (k := 262) (as := [.ref 50, .int (X.2 (Int32.toNatClampNeg (l3 + (1 : Int32)))), .int (X.2 (Int32.toNatClampNeg (l3 + (2 : Int32))))]) (cf1 := (1438, [some (.ref 100), some (.ref 0), some (.ref 50), some (.int l3)], [.int q46.1], i_S X q46.2)) (cf' := (1438, [some (.ref 100), some (.ref 0), some (.ref 50), some (.int l3)], [.int q47.1, .int q46.1], i_S X q47.2)) rfl (ok_r_taken (by omega) hq47) rfl ?_
  by_cases c48 : q46.1 = q47.1
  · replace h := (if_pos c48).symm.trans h
    refine i_rbT (c := q46.1 = q47.1) (t := 1466) (n := 1441) rfl c48 ?_
    refine i_rs 2 (cf' := (18, [some (.ref 100), some (.ref 0), some (.ref 50), some (.int (l3 + (6 : Int32)))], [], i_S X q47.2)) rfl ?_
    refine i_fg (lv' := [some (.ref 100), some (.ref 0), some (.ref 50), some (.int (l3 + (6 : Int32)))]) (And.intro rfl (And.intro rfl (And.intro rfl (And.intro rfl True.intro)))) ?_
    exact hself (l3 + (6 : Int32)) q47.2 _ h
  · replace h := (if_neg c48).symm.trans h
    refine i_rbF (c := q46.1 = q47.1) (t := 1466) (n := 1441) rfl c48 ?_
    refine i_rs 1 (cf' := (1442, [some (.ref 100), some (.ref 0), some (.ref 50), some (.int l3)], [.int (0 : Int32)], i_S X q47.2)) rfl ?_
    obtain rfl := Option.some.inj h
    exact i_rretZ rfl (Or.inl rfl) rfl
def w_law_B1347 (X : Nat × (Nat → Int32)) (self : Int32 → I_M → Option (Int32 × I_M)) (l3 : Int32) (M : I_M) : Option (Int32 × I_M) :=
  i_g (l3 + (1 : Int32)) X.1 (i_g (l3 + (2 : Int32)) X.1 (i_g (l3 + (3 : Int32)) X.1 (i_g (l3 + (4 : Int32)) X.1 (i_g (l3 + (5 : Int32)) X.1 (Option.bind (b_shift (X.2 (Int32.toNatClampNeg (l3 + (1 : Int32)))) (X.2 (Int32.toNatClampNeg (l3 + (2 : Int32)))) (X.2 (Int32.toNatClampNeg (l3 + (3 : Int32)))) (X.2 (Int32.toNatClampNeg (l3 + (4 : Int32)))) (X.2 (Int32.toNatClampNeg (l3 + (5 : Int32)))) M) (fun q152 => Option.bind (r_shift (X.2 (Int32.toNatClampNeg (l3 + (1 : Int32)))) (X.2 (Int32.toNatClampNeg (l3 + (2 : Int32)))) (X.2 (Int32.toNatClampNeg (l3 + (3 : Int32)))) (X.2 (Int32.toNatClampNeg (l3 + (4 : Int32)))) (X.2 (Int32.toNatClampNeg (l3 + (5 : Int32)))) q152.2) (fun q153 => (if q152.1 = q153.1 then
      self (l3 + (6 : Int32)) q153.2
    else
      some ((0 : Int32), q153.2)))))))))
set_option maxHeartbeats 20000000 in
set_option maxRecDepth 100000 in
theorem ok_w_law_B1347 {X : Nat × (Nat → Int32)} {d : Nat} {self : Int32 → I_M → Option (Int32 × I_M)} {l3 : Int32} {M : I_M} {r : (Int32 × I_M)} (hself : ∀ (m3 : Int32) (M : I_M) (r : (Int32 × I_M)), self m3 M = some r → I_RnE (I_Ex d) i_c266 (18, [some (.ref 100), some (.ref 0), some (.ref 50), some (.int m3)], [], i_S X M) (some (.int r.1)) (i_S X r.2)) (hd : 81 ≤ d + 1) (h : w_law_B1347 X self l3 M = some r) : I_RnE (I_Ex d) i_c266 (1347, [some (.ref 100), some (.ref 0), some (.ref 50), some (.int l3)], [], i_S X M) (some (.int r.1)) (i_S X r.2) := by
  unfold w_law_B1347 at h
  refine i_rs 5 (cf' := (1352, [some (.ref 100), some (.ref 0), some (.ref 50), some (.int l3)], [.int (l3 + (1 : Int32)), .ref 100, .ref 0], i_S X M)) rfl ?_
  obtain ⟨g147, h⟩ := i_gE h
  refine i_riald (n := X.1) (cf' := (1353, [some (.ref 100), some (.ref 0), some (.ref 50), some (.int l3)], [.int (X.2 (Int32.toNatClampNeg (l3 + (1 : Int32)))), .ref 0], i_S X M)) rfl rfl (by decide) g147 rfl ?_
  refine i_rs 4 (cf' := (1357, [some (.ref 100), some (.ref 0), some (.ref 50), some (.int l3)], [.int (l3 + (2 : Int32)), .ref 100, .int (X.2 (Int32.toNatClampNeg (l3 + (1 : Int32)))), .ref 0], i_S X M)) rfl ?_
  obtain ⟨g148, h⟩ := i_gE h
  refine i_riald (n := X.1) (cf' := (1358, [some (.ref 100), some (.ref 0), some (.ref 50), some (.int l3)], [.int (X.2 (Int32.toNatClampNeg (l3 + (2 : Int32)))), .int (X.2 (Int32.toNatClampNeg (l3 + (1 : Int32)))), .ref 0], i_S X M)) rfl rfl (by decide) g148 rfl ?_
  refine i_rs 4 (cf' := (1362, [some (.ref 100), some (.ref 0), some (.ref 50), some (.int l3)], [.int (l3 + (3 : Int32)), .ref 100, .int (X.2 (Int32.toNatClampNeg (l3 + (2 : Int32)))), .int (X.2 (Int32.toNatClampNeg (l3 + (1 : Int32)))), .ref 0], i_S X M)) rfl ?_
  obtain ⟨g149, h⟩ := i_gE h
  refine i_riald (n := X.1) (cf' := (1363, [some (.ref 100), some (.ref 0), some (.ref 50), some (.int l3)], [.int (X.2 (Int32.toNatClampNeg (l3 + (3 : Int32)))), .int (X.2 (Int32.toNatClampNeg (l3 + (2 : Int32)))), .int (X.2 (Int32.toNatClampNeg (l3 + (1 : Int32)))), .ref 0], i_S X M)) rfl rfl (by decide) g149 rfl ?_
  refine i_rs 4 (cf' := (1367, [some (.ref 100), some (.ref 0), some (.ref 50), some (.int l3)], [.int (l3 + (4 : Int32)), .ref 100, .int (X.2 (Int32.toNatClampNeg (l3 + (3 : Int32)))), .int (X.2 (Int32.toNatClampNeg (l3 + (2 : Int32)))), .int (X.2 (Int32.toNatClampNeg (l3 + (1 : Int32)))), .ref 0], i_S X M)) rfl ?_
  obtain ⟨g150, h⟩ := i_gE h
  refine i_riald (n := X.1) (cf' := (1368, [some (.ref 100), some (.ref 0), some (.ref 50), some (.int l3)], [.int (X.2 (Int32.toNatClampNeg (l3 + (4 : Int32)))), .int (X.2 (Int32.toNatClampNeg (l3 + (3 : Int32)))), .int (X.2 (Int32.toNatClampNeg (l3 + (2 : Int32)))), .int (X.2 (Int32.toNatClampNeg (l3 + (1 : Int32)))), .ref 0], i_S X M)) rfl rfl (by decide) g150 rfl ?_
  refine i_rs 4 (cf' := (1372, [some (.ref 100), some (.ref 0), some (.ref 50), some (.int l3)], [.int (l3 + (5 : Int32)), .ref 100, .int (X.2 (Int32.toNatClampNeg (l3 + (4 : Int32)))), .int (X.2 (Int32.toNatClampNeg (l3 + (3 : Int32)))), .int (X.2 (Int32.toNatClampNeg (l3 + (2 : Int32)))), .int (X.2 (Int32.toNatClampNeg (l3 + (1 : Int32)))), .ref 0], i_S X M)) rfl ?_
  obtain ⟨g151, h⟩ := i_gE h
  refine i_riald (n := X.1) (cf' := (1373, [some (.ref 100), some (.ref 0), some (.ref 50), some (.int l3)], [.int (X.2 (Int32.toNatClampNeg (l3 + (5 : Int32)))), .int (X.2 (Int32.toNatClampNeg (l3 + (4 : Int32)))), .int (X.2 (Int32.toNatClampNeg (l3 + (3 : Int32)))), .int (X.2 (Int32.toNatClampNeg (l3 + (2 : Int32)))), .int (X.2 (Int32.toNatClampNeg (l3 + (1 : Int32)))), .ref 0], i_S X M)) rfl rfl (by decide) g151 rfl ?_
  obtain ⟨q152, hq152, h⟩ := i_bdE h
  refine i_rcall (k := 164) (as := [.ref 0, .int (X.2 (Int32.toNatClampNeg (l3 + (1 : Int32)))), .int (X.2 (Int32.toNatClampNeg (l3 + (2 : Int32)))), .int (X.2 (Int32.toNatClampNeg (l3 + (3 : Int32)))), .int (X.2 (Int32.toNatClampNeg (l3 + (4 : Int32)))), .int (X.2 (Int32.toNatClampNeg (l3 + (5 : Int32))))]) (cf1 := (1376, [some (.ref 100), some (.ref 0), some (.ref 50), some (.int l3)], [], i_S X M)) (cf' := (1376, [some (.ref 100), some (.ref 0), some (.ref 50), some (.int l3)], [.int q152.1], i_S X q152.2)) rfl (ok_b_shift (by omega) hq152) rfl ?_
  refine i_rs 5 (cf' := (1381, [some (.ref 100), some (.ref 0), some (.ref 50), some (.int l3)], [.int (l3 + (1 : Int32)), .ref 100, .ref 50, .int q152.1], i_S X q152.2)) rfl ?_
  refine i_riald (n := X.1) (cf' := (1382, [some (.ref 100), some (.ref 0), some (.ref 50), some (.int l3)], [.int (X.2 (Int32.toNatClampNeg (l3 + (1 : Int32)))), .ref 50, .int q152.1], i_S X q152.2)) rfl rfl (by decide) g147 rfl ?_
  refine i_rs 4 (cf' := (1386, [some (.ref 100), some (.ref 0), some (.ref 50), some (.int l3)], [.int (l3 + (2 : Int32)), .ref 100, .int (X.2 (Int32.toNatClampNeg (l3 + (1 : Int32)))), .ref 50, .int q152.1], i_S X q152.2)) rfl ?_
  refine i_riald (n := X.1) (cf' := (1387, [some (.ref 100), some (.ref 0), some (.ref 50), some (.int l3)], [.int (X.2 (Int32.toNatClampNeg (l3 + (2 : Int32)))), .int (X.2 (Int32.toNatClampNeg (l3 + (1 : Int32)))), .ref 50, .int q152.1], i_S X q152.2)) rfl rfl (by decide) g148 rfl ?_
  refine i_rs 4 (cf' := (1391, [some (.ref 100), some (.ref 0), some (.ref 50), some (.int l3)], [.int (l3 + (3 : Int32)), .ref 100, .int (X.2 (Int32.toNatClampNeg (l3 + (2 : Int32)))), .int (X.2 (Int32.toNatClampNeg (l3 + (1 : Int32)))), .ref 50, .int q152.1], i_S X q152.2)) rfl ?_
  refine i_riald (n := X.1) (cf' := (1392, [some (.ref 100), some (.ref 0), some (.ref 50), some (.int l3)], [.int (X.2 (Int32.toNatClampNeg (l3 + (3 : Int32)))), .int (X.2 (Int32.toNatClampNeg (l3 + (2 : Int32)))), .int (X.2 (Int32.toNatClampNeg (l3 + (1 : Int32)))), .ref 50, .int q152.1], i_S X q152.2)) rfl rfl (by decide) g149 rfl ?_
  refine i_rs 4 (cf' := (1396, [some (.ref 100), some (.ref 0), some (.ref 50), some (.int l3)], [.int (l3 + (4 : Int32)), .ref 100, .int (X.2 (Int32.toNatClampNeg (l3 + (3 : Int32)))), .int (X.2 (Int32.toNatClampNeg (l3 + (2 : Int32)))), .int (X.2 (Int32.toNatClampNeg (l3 + (1 : Int32)))), .ref 50, .int q152.1], i_S X q152.2)) rfl ?_
  refine i_riald (n := X.1) (cf' := (1397, [some (.ref 100), some (.ref 0), some (.ref 50), some (.int l3)], [.int (X.2 (Int32.toNatClampNeg (l3 + (4 : Int32)))), .int (X.2 (Int32.toNatClampNeg (l3 + (3 : Int32)))), .int (X.2 (Int32.toNatClampNeg (l3 + (2 : Int32)))), .int (X.2 (Int32.toNatClampNeg (l3 + (1 : Int32)))), .ref 50, .int q152.1], i_S X q152.2)) rfl rfl (by decide) g150 rfl ?_
  refine i_rs 4 (cf' := (1401, [some (.ref 100), some (.ref 0), some (.ref 50), some (.int l3)], [.int (l3 + (5 : Int32)), .ref 100, .int (X.2 (Int32.toNatClampNeg (l3 + (4 : Int32)))), .int (X.2 (Int32.toNatClampNeg (l3 + (3 : Int32)))), .int (X.2 (Int32.toNatClampNeg (l3 + (2 : Int32)))), .int (X.2 (Int32.toNatClampNeg (l3 + (1 : Int32)))), .ref 50, .int q152.1], i_S X q152.2)) rfl ?_
  refine i_riald (n := X.1) (cf' := (1402, [some (.ref 100), some (.ref 0), some (.ref 50), some (.int l3)], [.int (X.2 (Int32.toNatClampNeg (l3 + (5 : Int32)))), .int (X.2 (Int32.toNatClampNeg (l3 + (4 : Int32)))), .int (X.2 (Int32.toNatClampNeg (l3 + (3 : Int32)))), .int (X.2 (Int32.toNatClampNeg (l3 + (2 : Int32)))), .int (X.2 (Int32.toNatClampNeg (l3 + (1 : Int32)))), .ref 50, .int q152.1], i_S X q152.2)) rfl rfl (by decide) g151 rfl ?_
  obtain ⟨q153, hq153, h⟩ := i_bdE h
  refine i_rcall (k := 261) (as := [.ref 50, .int (X.2 (Int32.toNatClampNeg (l3 + (1 : Int32)))), .int (X.2 (Int32.toNatClampNeg (l3 + (2 : Int32)))), .int (X.2 (Int32.toNatClampNeg (l3 + (3 : Int32)))), .int (X.2 (Int32.toNatClampNeg (l3 + (4 : Int32)))), .int (X.2 (Int32.toNatClampNeg (l3 + (5 : Int32))))]) (cf1 := (1405, [some (.ref 100), some (.ref 0), some (.ref 50), some (.int l3)], [.int q152.1], i_S X q152.2)) (cf' := (1405, [some (.ref 100), some (.ref 0), some (.ref 50), some (.int l3)], [.int q153.1, .int q152.1], i_S X q153.2)) rfl (ok_r_shift (by omega) hq153) rfl ?_
  by_cases c154 : q152.1 = q153.1
  · replace h := (if_pos c154).symm.trans h
    refine i_rbT (c := q152.1 = q153.1) (t := 1466) (n := 1408) rfl c154 ?_
    refine i_rs 2 (cf' := (18, [some (.ref 100), some (.ref 0), some (.ref 50), some (.int (l3 + (6 : Int32)))], [], i_S X q153.2)) rfl ?_
    refine i_fg (lv' := [some (.ref 100), some (.ref 0), some (.ref 50), some (.int (l3 + (6 : Int32)))]) (And.intro rfl (And.intro rfl (And.intro rfl (And.intro rfl True.intro)))) ?_
    exact hself (l3 + (6 : Int32)) q153.2 _ h
  · replace h := (if_neg c154).symm.trans h
    refine i_rbF (c := q152.1 = q153.1) (t := 1466) (n := 1408) rfl c154 ?_
    refine i_rs 1 (cf' := (1409, [some (.ref 100), some (.ref 0), some (.ref 50), some (.int l3)], [.int (0 : Int32)], i_S X q153.2)) rfl ?_
    obtain rfl := Option.some.inj h
    exact i_rretZ rfl (Or.inl rfl) rfl
def w_law_B1313 (X : Nat × (Nat → Int32)) (self : Int32 → I_M → Option (Int32 × I_M)) (l3 : Int32) (M : I_M) : Option (Int32 × I_M) :=
  i_g (l3 + (1 : Int32)) X.1 (i_g (l3 + (2 : Int32)) X.1 (Option.bind (b_element (X.2 (Int32.toNatClampNeg (l3 + (1 : Int32)))) (X.2 (Int32.toNatClampNeg (l3 + (2 : Int32)))) M) (fun q95 => Option.bind (r_element (X.2 (Int32.toNatClampNeg (l3 + (1 : Int32)))) (X.2 (Int32.toNatClampNeg (l3 + (2 : Int32)))) q95.2) (fun q96 => (if (lg_cmp q95.1 q96.1) = (0 : Int32) then
      self (l3 + (6 : Int32)) q96.2
    else
      some ((0 : Int32), q96.2))))))
set_option maxHeartbeats 20000000 in
set_option maxRecDepth 100000 in
theorem ok_w_law_B1313 {X : Nat × (Nat → Int32)} {d : Nat} {self : Int32 → I_M → Option (Int32 × I_M)} {l3 : Int32} {M : I_M} {r : (Int32 × I_M)} (hself : ∀ (m3 : Int32) (M : I_M) (r : (Int32 × I_M)), self m3 M = some r → I_RnE (I_Ex d) i_c266 (18, [some (.ref 100), some (.ref 0), some (.ref 50), some (.int m3)], [], i_S X M) (some (.int r.1)) (i_S X r.2)) (hd : 81 ≤ d + 1) (h : w_law_B1313 X self l3 M = some r) : I_RnE (I_Ex d) i_c266 (1313, [some (.ref 100), some (.ref 0), some (.ref 50), some (.int l3)], [], i_S X M) (some (.int r.1)) (i_S X r.2) := by
  unfold w_law_B1313 at h
  refine i_rs 5 (cf' := (1318, [some (.ref 100), some (.ref 0), some (.ref 50), some (.int l3)], [.int (l3 + (1 : Int32)), .ref 100, .ref 0], i_S X M)) rfl ?_
  obtain ⟨g93, h⟩ := i_gE h
  refine i_riald (n := X.1) (cf' := (1319, [some (.ref 100), some (.ref 0), some (.ref 50), some (.int l3)], [.int (X.2 (Int32.toNatClampNeg (l3 + (1 : Int32)))), .ref 0], i_S X M)) rfl rfl (by decide) g93 rfl ?_
  refine i_rs 4 (cf' := (1323, [some (.ref 100), some (.ref 0), some (.ref 50), some (.int l3)], [.int (l3 + (2 : Int32)), .ref 100, .int (X.2 (Int32.toNatClampNeg (l3 + (1 : Int32)))), .ref 0], i_S X M)) rfl ?_
  obtain ⟨g94, h⟩ := i_gE h
  refine i_riald (n := X.1) (cf' := (1324, [some (.ref 100), some (.ref 0), some (.ref 50), some (.int l3)], [.int (X.2 (Int32.toNatClampNeg (l3 + (2 : Int32)))), .int (X.2 (Int32.toNatClampNeg (l3 + (1 : Int32)))), .ref 0], i_S X M)) rfl rfl (by decide) g94 rfl ?_
  obtain ⟨q95, hq95, h⟩ := i_bdE h
  refine i_rcall (k := 163) (as := [.ref 0, .int (X.2 (Int32.toNatClampNeg (l3 + (1 : Int32)))), .int (X.2 (Int32.toNatClampNeg (l3 + (2 : Int32))))]) (cf1 := (1327, [some (.ref 100), some (.ref 0), some (.ref 50), some (.int l3)], [], i_S X M)) (cf' := (1327, [some (.ref 100), some (.ref 0), some (.ref 50), some (.int l3)], [.long q95.1], i_S X q95.2)) rfl (ok_b_element (by omega) hq95) rfl ?_
  refine i_rs 5 (cf' := (1332, [some (.ref 100), some (.ref 0), some (.ref 50), some (.int l3)], [.int (l3 + (1 : Int32)), .ref 100, .ref 50, .long q95.1], i_S X q95.2)) rfl ?_
  refine i_riald (n := X.1) (cf' := (1333, [some (.ref 100), some (.ref 0), some (.ref 50), some (.int l3)], [.int (X.2 (Int32.toNatClampNeg (l3 + (1 : Int32)))), .ref 50, .long q95.1], i_S X q95.2)) rfl rfl (by decide) g93 rfl ?_
  refine i_rs 4 (cf' := (1337, [some (.ref 100), some (.ref 0), some (.ref 50), some (.int l3)], [.int (l3 + (2 : Int32)), .ref 100, .int (X.2 (Int32.toNatClampNeg (l3 + (1 : Int32)))), .ref 50, .long q95.1], i_S X q95.2)) rfl ?_
  refine i_riald (n := X.1) (cf' := (1338, [some (.ref 100), some (.ref 0), some (.ref 50), some (.int l3)], [.int (X.2 (Int32.toNatClampNeg (l3 + (2 : Int32)))), .int (X.2 (Int32.toNatClampNeg (l3 + (1 : Int32)))), .ref 50, .long q95.1], i_S X q95.2)) rfl rfl (by decide) g94 rfl ?_
  obtain ⟨q96, hq96, h⟩ := i_bdE h
  refine i_rcall (k := 260) (as := [.ref 50, .int (X.2 (Int32.toNatClampNeg (l3 + (1 : Int32)))), .int (X.2 (Int32.toNatClampNeg (l3 + (2 : Int32))))]) (cf1 := (1341, [some (.ref 100), some (.ref 0), some (.ref 50), some (.int l3)], [.long q95.1], i_S X q95.2)) (cf' := (1341, [some (.ref 100), some (.ref 0), some (.ref 50), some (.int l3)], [.long q96.1, .long q95.1], i_S X q96.2)) rfl (ok_r_element (by omega) hq96) rfl ?_
  refine i_rs 1 (cf' := (1342, [some (.ref 100), some (.ref 0), some (.ref 50), some (.int l3)], [.int (lg_cmp q95.1 q96.1)], i_S X q96.2)) rfl ?_
  by_cases c97 : (lg_cmp q95.1 q96.1) = (0 : Int32)
  · replace h := (if_pos c97).symm.trans h
    refine i_rbT (c := (lg_cmp q95.1 q96.1) = (0 : Int32)) (t := 1466) (n := 1345) rfl c97 ?_
    refine i_rs 2 (cf' := (18, [some (.ref 100), some (.ref 0), some (.ref 50), some (.int (l3 + (6 : Int32)))], [], i_S X q96.2)) rfl ?_
    refine i_fg (lv' := [some (.ref 100), some (.ref 0), some (.ref 50), some (.int (l3 + (6 : Int32)))]) (And.intro rfl (And.intro rfl (And.intro rfl (And.intro rfl True.intro)))) ?_
    exact hself (l3 + (6 : Int32)) q96.2 _ h
  · replace h := (if_neg c97).symm.trans h
    refine i_rbF (c := (lg_cmp q95.1 q96.1) = (0 : Int32)) (t := 1466) (n := 1345) rfl c97 ?_
    refine i_rs 1 (cf' := (1346, [some (.ref 100), some (.ref 0), some (.ref 50), some (.int l3)], [.int (0 : Int32)], i_S X q96.2)) rfl ?_
    obtain rfl := Option.some.inj h
    exact i_rretZ rfl (Or.inl rfl) rfl
def w_law_B1240 (X : Nat × (Nat → Int32)) (self : Int32 → I_M → Option (Int32 × I_M)) (l3 : Int32) (M : I_M) : Option (Int32 × I_M) :=
  i_g (l3 + (1 : Int32)) X.1 (i_g (l3 + (2 : Int32)) X.1 (i_g (l3 + (3 : Int32)) X.1 (i_g (l3 + (4 : Int32)) X.1 (Option.bind (b_put (X.2 (Int32.toNatClampNeg (l3 + (1 : Int32)))) (X.2 (Int32.toNatClampNeg (l3 + (2 : Int32)))) (((Int32.toInt64 (X.2 (Int32.toNatClampNeg (l3 + (3 : Int32))))) <<< (Int32.toInt64 (32 : Int32) &&& 63)) ||| ((Int32.toInt64 (X.2 (Int32.toNatClampNeg (l3 + (4 : Int32))))) &&& (4294967295 : Int64))) M) (fun q192 => Option.bind (r_put (X.2 (Int32.toNatClampNeg (l3 + (1 : Int32)))) (X.2 (Int32.toNatClampNeg (l3 + (2 : Int32)))) (((Int32.toInt64 (X.2 (Int32.toNatClampNeg (l3 + (3 : Int32))))) <<< (Int32.toInt64 (32 : Int32) &&& 63)) ||| ((Int32.toInt64 (X.2 (Int32.toNatClampNeg (l3 + (4 : Int32))))) &&& (4294967295 : Int64))) q192.2) (fun q193 => (if q192.1 = q193.1 then
      self (l3 + (6 : Int32)) q193.2
    else
      some ((0 : Int32), q193.2))))))))
set_option maxHeartbeats 20000000 in
set_option maxRecDepth 100000 in
theorem ok_w_law_B1240 {X : Nat × (Nat → Int32)} {d : Nat} {self : Int32 → I_M → Option (Int32 × I_M)} {l3 : Int32} {M : I_M} {r : (Int32 × I_M)} (hself : ∀ (m3 : Int32) (M : I_M) (r : (Int32 × I_M)), self m3 M = some r → I_RnE (I_Ex d) i_c266 (18, [some (.ref 100), some (.ref 0), some (.ref 50), some (.int m3)], [], i_S X M) (some (.int r.1)) (i_S X r.2)) (hd : 81 ≤ d + 1) (h : w_law_B1240 X self l3 M = some r) : I_RnE (I_Ex d) i_c266 (1240, [some (.ref 100), some (.ref 0), some (.ref 50), some (.int l3)], [], i_S X M) (some (.int r.1)) (i_S X r.2) := by
  unfold w_law_B1240 at h
  refine i_rs 5 (cf' := (1245, [some (.ref 100), some (.ref 0), some (.ref 50), some (.int l3)], [.int (l3 + (1 : Int32)), .ref 100, .ref 0], i_S X M)) rfl ?_
  obtain ⟨g188, h⟩ := i_gE h
  refine i_riald (n := X.1) (cf' := (1246, [some (.ref 100), some (.ref 0), some (.ref 50), some (.int l3)], [.int (X.2 (Int32.toNatClampNeg (l3 + (1 : Int32)))), .ref 0], i_S X M)) rfl rfl (by decide) g188 rfl ?_
  refine i_rs 4 (cf' := (1250, [some (.ref 100), some (.ref 0), some (.ref 50), some (.int l3)], [.int (l3 + (2 : Int32)), .ref 100, .int (X.2 (Int32.toNatClampNeg (l3 + (1 : Int32)))), .ref 0], i_S X M)) rfl ?_
  obtain ⟨g189, h⟩ := i_gE h
  refine i_riald (n := X.1) (cf' := (1251, [some (.ref 100), some (.ref 0), some (.ref 50), some (.int l3)], [.int (X.2 (Int32.toNatClampNeg (l3 + (2 : Int32)))), .int (X.2 (Int32.toNatClampNeg (l3 + (1 : Int32)))), .ref 0], i_S X M)) rfl rfl (by decide) g189 rfl ?_
  refine i_rs 4 (cf' := (1255, [some (.ref 100), some (.ref 0), some (.ref 50), some (.int l3)], [.int (l3 + (3 : Int32)), .ref 100, .int (X.2 (Int32.toNatClampNeg (l3 + (2 : Int32)))), .int (X.2 (Int32.toNatClampNeg (l3 + (1 : Int32)))), .ref 0], i_S X M)) rfl ?_
  obtain ⟨g190, h⟩ := i_gE h
  refine i_riald (n := X.1) (cf' := (1256, [some (.ref 100), some (.ref 0), some (.ref 50), some (.int l3)], [.int (X.2 (Int32.toNatClampNeg (l3 + (3 : Int32)))), .int (X.2 (Int32.toNatClampNeg (l3 + (2 : Int32)))), .int (X.2 (Int32.toNatClampNeg (l3 + (1 : Int32)))), .ref 0], i_S X M)) rfl rfl (by decide) g190 rfl ?_
  refine i_rs 7 (cf' := (1264, [some (.ref 100), some (.ref 0), some (.ref 50), some (.int l3)], [.int (l3 + (4 : Int32)), .ref 100, .long ((Int32.toInt64 (X.2 (Int32.toNatClampNeg (l3 + (3 : Int32))))) <<< (Int32.toInt64 (32 : Int32) &&& 63)), .int (X.2 (Int32.toNatClampNeg (l3 + (2 : Int32)))), .int (X.2 (Int32.toNatClampNeg (l3 + (1 : Int32)))), .ref 0], i_S X M)) rfl ?_
  obtain ⟨g191, h⟩ := i_gE h
  refine i_riald (n := X.1) (cf' := (1265, [some (.ref 100), some (.ref 0), some (.ref 50), some (.int l3)], [.int (X.2 (Int32.toNatClampNeg (l3 + (4 : Int32)))), .long ((Int32.toInt64 (X.2 (Int32.toNatClampNeg (l3 + (3 : Int32))))) <<< (Int32.toInt64 (32 : Int32) &&& 63)), .int (X.2 (Int32.toNatClampNeg (l3 + (2 : Int32)))), .int (X.2 (Int32.toNatClampNeg (l3 + (1 : Int32)))), .ref 0], i_S X M)) rfl rfl (by decide) g191 rfl ?_
  refine i_rs 4 (cf' := (1271, [some (.ref 100), some (.ref 0), some (.ref 50), some (.int l3)], [.long (((Int32.toInt64 (X.2 (Int32.toNatClampNeg (l3 + (3 : Int32))))) <<< (Int32.toInt64 (32 : Int32) &&& 63)) ||| ((Int32.toInt64 (X.2 (Int32.toNatClampNeg (l3 + (4 : Int32))))) &&& (4294967295 : Int64))), .int (X.2 (Int32.toNatClampNeg (l3 + (2 : Int32)))), .int (X.2 (Int32.toNatClampNeg (l3 + (1 : Int32)))), .ref 0], i_S X M)) rfl ?_
  obtain ⟨q192, hq192, h⟩ := i_bdE h
  refine i_rcall (k := 159) (as := [.ref 0, .int (X.2 (Int32.toNatClampNeg (l3 + (1 : Int32)))), .int (X.2 (Int32.toNatClampNeg (l3 + (2 : Int32)))), .long (((Int32.toInt64 (X.2 (Int32.toNatClampNeg (l3 + (3 : Int32))))) <<< (Int32.toInt64 (32 : Int32) &&& 63)) ||| ((Int32.toInt64 (X.2 (Int32.toNatClampNeg (l3 + (4 : Int32))))) &&& (4294967295 : Int64)))]) (cf1 := (1274, [some (.ref 100), some (.ref 0), some (.ref 50), some (.int l3)], [], i_S X M)) (cf' := (1274, [some (.ref 100), some (.ref 0), some (.ref 50), some (.int l3)], [.int q192.1], i_S X q192.2)) rfl (ok_b_put (by omega) hq192) rfl ?_
  refine i_rs 5 (cf' := (1279, [some (.ref 100), some (.ref 0), some (.ref 50), some (.int l3)], [.int (l3 + (1 : Int32)), .ref 100, .ref 50, .int q192.1], i_S X q192.2)) rfl ?_
  refine i_riald (n := X.1) (cf' := (1280, [some (.ref 100), some (.ref 0), some (.ref 50), some (.int l3)], [.int (X.2 (Int32.toNatClampNeg (l3 + (1 : Int32)))), .ref 50, .int q192.1], i_S X q192.2)) rfl rfl (by decide) g188 rfl ?_
  refine i_rs 4 (cf' := (1284, [some (.ref 100), some (.ref 0), some (.ref 50), some (.int l3)], [.int (l3 + (2 : Int32)), .ref 100, .int (X.2 (Int32.toNatClampNeg (l3 + (1 : Int32)))), .ref 50, .int q192.1], i_S X q192.2)) rfl ?_
  refine i_riald (n := X.1) (cf' := (1285, [some (.ref 100), some (.ref 0), some (.ref 50), some (.int l3)], [.int (X.2 (Int32.toNatClampNeg (l3 + (2 : Int32)))), .int (X.2 (Int32.toNatClampNeg (l3 + (1 : Int32)))), .ref 50, .int q192.1], i_S X q192.2)) rfl rfl (by decide) g189 rfl ?_
  refine i_rs 4 (cf' := (1289, [some (.ref 100), some (.ref 0), some (.ref 50), some (.int l3)], [.int (l3 + (3 : Int32)), .ref 100, .int (X.2 (Int32.toNatClampNeg (l3 + (2 : Int32)))), .int (X.2 (Int32.toNatClampNeg (l3 + (1 : Int32)))), .ref 50, .int q192.1], i_S X q192.2)) rfl ?_
  refine i_riald (n := X.1) (cf' := (1290, [some (.ref 100), some (.ref 0), some (.ref 50), some (.int l3)], [.int (X.2 (Int32.toNatClampNeg (l3 + (3 : Int32)))), .int (X.2 (Int32.toNatClampNeg (l3 + (2 : Int32)))), .int (X.2 (Int32.toNatClampNeg (l3 + (1 : Int32)))), .ref 50, .int q192.1], i_S X q192.2)) rfl rfl (by decide) g190 rfl ?_
  refine i_rs 7 (cf' := (1298, [some (.ref 100), some (.ref 0), some (.ref 50), some (.int l3)], [.int (l3 + (4 : Int32)), .ref 100, .long ((Int32.toInt64 (X.2 (Int32.toNatClampNeg (l3 + (3 : Int32))))) <<< (Int32.toInt64 (32 : Int32) &&& 63)), .int (X.2 (Int32.toNatClampNeg (l3 + (2 : Int32)))), .int (X.2 (Int32.toNatClampNeg (l3 + (1 : Int32)))), .ref 50, .int q192.1], i_S X q192.2)) rfl ?_
  refine i_riald (n := X.1) (cf' := (1299, [some (.ref 100), some (.ref 0), some (.ref 50), some (.int l3)], [.int (X.2 (Int32.toNatClampNeg (l3 + (4 : Int32)))), .long ((Int32.toInt64 (X.2 (Int32.toNatClampNeg (l3 + (3 : Int32))))) <<< (Int32.toInt64 (32 : Int32) &&& 63)), .int (X.2 (Int32.toNatClampNeg (l3 + (2 : Int32)))), .int (X.2 (Int32.toNatClampNeg (l3 + (1 : Int32)))), .ref 50, .int q192.1], i_S X q192.2)) rfl rfl (by decide) g191 rfl ?_
  refine i_rs 4 (cf' := (1305, [some (.ref 100), some (.ref 0), some (.ref 50), some (.int l3)], [.long (((Int32.toInt64 (X.2 (Int32.toNatClampNeg (l3 + (3 : Int32))))) <<< (Int32.toInt64 (32 : Int32) &&& 63)) ||| ((Int32.toInt64 (X.2 (Int32.toNatClampNeg (l3 + (4 : Int32))))) &&& (4294967295 : Int64))), .int (X.2 (Int32.toNatClampNeg (l3 + (2 : Int32)))), .int (X.2 (Int32.toNatClampNeg (l3 + (1 : Int32)))), .ref 50, .int q192.1], i_S X q192.2)) rfl ?_
  obtain ⟨q193, hq193, h⟩ := i_bdE h
  refine i_rcall (k := 257) (as := [.ref 50, .int (X.2 (Int32.toNatClampNeg (l3 + (1 : Int32)))), .int (X.2 (Int32.toNatClampNeg (l3 + (2 : Int32)))), .long (((Int32.toInt64 (X.2 (Int32.toNatClampNeg (l3 + (3 : Int32))))) <<< (Int32.toInt64 (32 : Int32) &&& 63)) ||| ((Int32.toInt64 (X.2 (Int32.toNatClampNeg (l3 + (4 : Int32))))) &&& (4294967295 : Int64)))]) (cf1 := (1308, [some (.ref 100), some (.ref 0), some (.ref 50), some (.int l3)], [.int q192.1], i_S X q192.2)) (cf' := (1308, [some (.ref 100), some (.ref 0), some (.ref 50), some (.int l3)], [.int q193.1, .int q192.1], i_S X q193.2)) rfl (ok_r_put (by omega) hq193) rfl ?_
  by_cases c194 : q192.1 = q193.1
  · replace h := (if_pos c194).symm.trans h
    refine i_rbT (c := q192.1 = q193.1) (t := 1466) (n := 1311) rfl c194 ?_
    refine i_rs 2 (cf' := (18, [some (.ref 100), some (.ref 0), some (.ref 50), some (.int (l3 + (6 : Int32)))], [], i_S X q193.2)) rfl ?_
    refine i_fg (lv' := [some (.ref 100), some (.ref 0), some (.ref 50), some (.int (l3 + (6 : Int32)))]) (And.intro rfl (And.intro rfl (And.intro rfl (And.intro rfl True.intro)))) ?_
    exact hself (l3 + (6 : Int32)) q193.2 _ h
  · replace h := (if_neg c194).symm.trans h
    refine i_rbF (c := q192.1 = q193.1) (t := 1466) (n := 1311) rfl c194 ?_
    refine i_rs 1 (cf' := (1312, [some (.ref 100), some (.ref 0), some (.ref 50), some (.int l3)], [.int (0 : Int32)], i_S X q193.2)) rfl ?_
    obtain rfl := Option.some.inj h
    exact i_rretZ rfl (Or.inl rfl) rfl
def w_law_B1197 (X : Nat × (Nat → Int32)) (self : Int32 → I_M → Option (Int32 × I_M)) (l3 : Int32) (M : I_M) : Option (Int32 × I_M) :=
  i_g (l3 + (1 : Int32)) X.1 (i_g (l3 + (2 : Int32)) X.1 (i_g (l3 + (3 : Int32)) X.1 (Option.bind (b_row (X.2 (Int32.toNatClampNeg (l3 + (1 : Int32)))) (X.2 (Int32.toNatClampNeg (l3 + (2 : Int32)))) (X.2 (Int32.toNatClampNeg (l3 + (3 : Int32)))) M) (fun q124 => Option.bind (r_row (X.2 (Int32.toNatClampNeg (l3 + (1 : Int32)))) (X.2 (Int32.toNatClampNeg (l3 + (2 : Int32)))) (X.2 (Int32.toNatClampNeg (l3 + (3 : Int32)))) q124.2) (fun q125 => (if q124.1 = q125.1 then
      self (l3 + (6 : Int32)) q125.2
    else
      some ((0 : Int32), q125.2)))))))
set_option maxHeartbeats 20000000 in
set_option maxRecDepth 100000 in
theorem ok_w_law_B1197 {X : Nat × (Nat → Int32)} {d : Nat} {self : Int32 → I_M → Option (Int32 × I_M)} {l3 : Int32} {M : I_M} {r : (Int32 × I_M)} (hself : ∀ (m3 : Int32) (M : I_M) (r : (Int32 × I_M)), self m3 M = some r → I_RnE (I_Ex d) i_c266 (18, [some (.ref 100), some (.ref 0), some (.ref 50), some (.int m3)], [], i_S X M) (some (.int r.1)) (i_S X r.2)) (hd : 81 ≤ d + 1) (h : w_law_B1197 X self l3 M = some r) : I_RnE (I_Ex d) i_c266 (1197, [some (.ref 100), some (.ref 0), some (.ref 50), some (.int l3)], [], i_S X M) (some (.int r.1)) (i_S X r.2) := by
  unfold w_law_B1197 at h
  refine i_rs 5 (cf' := (1202, [some (.ref 100), some (.ref 0), some (.ref 50), some (.int l3)], [.int (l3 + (1 : Int32)), .ref 100, .ref 0], i_S X M)) rfl ?_
  obtain ⟨g121, h⟩ := i_gE h
  refine i_riald (n := X.1) (cf' := (1203, [some (.ref 100), some (.ref 0), some (.ref 50), some (.int l3)], [.int (X.2 (Int32.toNatClampNeg (l3 + (1 : Int32)))), .ref 0], i_S X M)) rfl rfl (by decide) g121 rfl ?_
  refine i_rs 4 (cf' := (1207, [some (.ref 100), some (.ref 0), some (.ref 50), some (.int l3)], [.int (l3 + (2 : Int32)), .ref 100, .int (X.2 (Int32.toNatClampNeg (l3 + (1 : Int32)))), .ref 0], i_S X M)) rfl ?_
  obtain ⟨g122, h⟩ := i_gE h
  refine i_riald (n := X.1) (cf' := (1208, [some (.ref 100), some (.ref 0), some (.ref 50), some (.int l3)], [.int (X.2 (Int32.toNatClampNeg (l3 + (2 : Int32)))), .int (X.2 (Int32.toNatClampNeg (l3 + (1 : Int32)))), .ref 0], i_S X M)) rfl rfl (by decide) g122 rfl ?_
  refine i_rs 4 (cf' := (1212, [some (.ref 100), some (.ref 0), some (.ref 50), some (.int l3)], [.int (l3 + (3 : Int32)), .ref 100, .int (X.2 (Int32.toNatClampNeg (l3 + (2 : Int32)))), .int (X.2 (Int32.toNatClampNeg (l3 + (1 : Int32)))), .ref 0], i_S X M)) rfl ?_
  obtain ⟨g123, h⟩ := i_gE h
  refine i_riald (n := X.1) (cf' := (1213, [some (.ref 100), some (.ref 0), some (.ref 50), some (.int l3)], [.int (X.2 (Int32.toNatClampNeg (l3 + (3 : Int32)))), .int (X.2 (Int32.toNatClampNeg (l3 + (2 : Int32)))), .int (X.2 (Int32.toNatClampNeg (l3 + (1 : Int32)))), .ref 0], i_S X M)) rfl rfl (by decide) g123 rfl ?_
  obtain ⟨q124, hq124, h⟩ := i_bdE h
  refine i_rcall (k := 158) (as := [.ref 0, .int (X.2 (Int32.toNatClampNeg (l3 + (1 : Int32)))), .int (X.2 (Int32.toNatClampNeg (l3 + (2 : Int32)))), .int (X.2 (Int32.toNatClampNeg (l3 + (3 : Int32))))]) (cf1 := (1216, [some (.ref 100), some (.ref 0), some (.ref 50), some (.int l3)], [], i_S X M)) (cf' := (1216, [some (.ref 100), some (.ref 0), some (.ref 50), some (.int l3)], [.int q124.1], i_S X q124.2)) rfl (ok_b_row (by omega) hq124) rfl ?_
  refine i_rs 5 (cf' := (1221, [some (.ref 100), some (.ref 0), some (.ref 50), some (.int l3)], [.int (l3 + (1 : Int32)), .ref 100, .ref 50, .int q124.1], i_S X q124.2)) rfl ?_
  refine i_riald (n := X.1) (cf' := (1222, [some (.ref 100), some (.ref 0), some (.ref 50), some (.int l3)], [.int (X.2 (Int32.toNatClampNeg (l3 + (1 : Int32)))), .ref 50, .int q124.1], i_S X q124.2)) rfl rfl (by decide) g121 rfl ?_
  refine i_rs 4 (cf' := (1226, [some (.ref 100), some (.ref 0), some (.ref 50), some (.int l3)], [.int (l3 + (2 : Int32)), .ref 100, .int (X.2 (Int32.toNatClampNeg (l3 + (1 : Int32)))), .ref 50, .int q124.1], i_S X q124.2)) rfl ?_
  refine i_riald (n := X.1) (cf' := (1227, [some (.ref 100), some (.ref 0), some (.ref 50), some (.int l3)], [.int (X.2 (Int32.toNatClampNeg (l3 + (2 : Int32)))), .int (X.2 (Int32.toNatClampNeg (l3 + (1 : Int32)))), .ref 50, .int q124.1], i_S X q124.2)) rfl rfl (by decide) g122 rfl ?_
  refine i_rs 4 (cf' := (1231, [some (.ref 100), some (.ref 0), some (.ref 50), some (.int l3)], [.int (l3 + (3 : Int32)), .ref 100, .int (X.2 (Int32.toNatClampNeg (l3 + (2 : Int32)))), .int (X.2 (Int32.toNatClampNeg (l3 + (1 : Int32)))), .ref 50, .int q124.1], i_S X q124.2)) rfl ?_
  refine i_riald (n := X.1) (cf' := (1232, [some (.ref 100), some (.ref 0), some (.ref 50), some (.int l3)], [.int (X.2 (Int32.toNatClampNeg (l3 + (3 : Int32)))), .int (X.2 (Int32.toNatClampNeg (l3 + (2 : Int32)))), .int (X.2 (Int32.toNatClampNeg (l3 + (1 : Int32)))), .ref 50, .int q124.1], i_S X q124.2)) rfl rfl (by decide) g123 rfl ?_
  obtain ⟨q125, hq125, h⟩ := i_bdE h
  refine i_rcall (k := 256) (as := [.ref 50, .int (X.2 (Int32.toNatClampNeg (l3 + (1 : Int32)))), .int (X.2 (Int32.toNatClampNeg (l3 + (2 : Int32)))), .int (X.2 (Int32.toNatClampNeg (l3 + (3 : Int32))))]) (cf1 := (1235, [some (.ref 100), some (.ref 0), some (.ref 50), some (.int l3)], [.int q124.1], i_S X q124.2)) (cf' := (1235, [some (.ref 100), some (.ref 0), some (.ref 50), some (.int l3)], [.int q125.1, .int q124.1], i_S X q125.2)) rfl (ok_r_row (by omega) hq125) rfl ?_
  by_cases c126 : q124.1 = q125.1
  · replace h := (if_pos c126).symm.trans h
    refine i_rbT (c := q124.1 = q125.1) (t := 1466) (n := 1238) rfl c126 ?_
    refine i_rs 2 (cf' := (18, [some (.ref 100), some (.ref 0), some (.ref 50), some (.int (l3 + (6 : Int32)))], [], i_S X q125.2)) rfl ?_
    refine i_fg (lv' := [some (.ref 100), some (.ref 0), some (.ref 50), some (.int (l3 + (6 : Int32)))]) (And.intro rfl (And.intro rfl (And.intro rfl (And.intro rfl True.intro)))) ?_
    exact hself (l3 + (6 : Int32)) q125.2 _ h
  · replace h := (if_neg c126).symm.trans h
    refine i_rbF (c := q124.1 = q125.1) (t := 1466) (n := 1238) rfl c126 ?_
    refine i_rs 1 (cf' := (1239, [some (.ref 100), some (.ref 0), some (.ref 50), some (.int l3)], [.int (0 : Int32)], i_S X q125.2)) rfl ?_
    obtain rfl := Option.some.inj h
    exact i_rretZ rfl (Or.inl rfl) rfl
def w_law_B1164 (X : Nat × (Nat → Int32)) (self : Int32 → I_M → Option (Int32 × I_M)) (l3 : Int32) (M : I_M) : Option (Int32 × I_M) :=
  i_g (l3 + (1 : Int32)) X.1 (i_g (l3 + (2 : Int32)) X.1 (Option.bind (b_keep (X.2 (Int32.toNatClampNeg (l3 + (1 : Int32)))) (X.2 (Int32.toNatClampNeg (l3 + (2 : Int32)))) M) (fun q73 => Option.bind (r_keep (X.2 (Int32.toNatClampNeg (l3 + (1 : Int32)))) (X.2 (Int32.toNatClampNeg (l3 + (2 : Int32)))) q73.2) (fun q74 => (if q73.1 = q74.1 then
      self (l3 + (6 : Int32)) q74.2
    else
      some ((0 : Int32), q74.2))))))
set_option maxHeartbeats 20000000 in
set_option maxRecDepth 100000 in
theorem ok_w_law_B1164 {X : Nat × (Nat → Int32)} {d : Nat} {self : Int32 → I_M → Option (Int32 × I_M)} {l3 : Int32} {M : I_M} {r : (Int32 × I_M)} (hself : ∀ (m3 : Int32) (M : I_M) (r : (Int32 × I_M)), self m3 M = some r → I_RnE (I_Ex d) i_c266 (18, [some (.ref 100), some (.ref 0), some (.ref 50), some (.int m3)], [], i_S X M) (some (.int r.1)) (i_S X r.2)) (hd : 81 ≤ d + 1) (h : w_law_B1164 X self l3 M = some r) : I_RnE (I_Ex d) i_c266 (1164, [some (.ref 100), some (.ref 0), some (.ref 50), some (.int l3)], [], i_S X M) (some (.int r.1)) (i_S X r.2) := by
  unfold w_law_B1164 at h
  refine i_rs 5 (cf' := (1169, [some (.ref 100), some (.ref 0), some (.ref 50), some (.int l3)], [.int (l3 + (1 : Int32)), .ref 100, .ref 0], i_S X M)) rfl ?_
  obtain ⟨g71, h⟩ := i_gE h
  refine i_riald (n := X.1) (cf' := (1170, [some (.ref 100), some (.ref 0), some (.ref 50), some (.int l3)], [.int (X.2 (Int32.toNatClampNeg (l3 + (1 : Int32)))), .ref 0], i_S X M)) rfl rfl (by decide) g71 rfl ?_
  refine i_rs 4 (cf' := (1174, [some (.ref 100), some (.ref 0), some (.ref 50), some (.int l3)], [.int (l3 + (2 : Int32)), .ref 100, .int (X.2 (Int32.toNatClampNeg (l3 + (1 : Int32)))), .ref 0], i_S X M)) rfl ?_
  obtain ⟨g72, h⟩ := i_gE h
  refine i_riald (n := X.1) (cf' := (1175, [some (.ref 100), some (.ref 0), some (.ref 50), some (.int l3)], [.int (X.2 (Int32.toNatClampNeg (l3 + (2 : Int32)))), .int (X.2 (Int32.toNatClampNeg (l3 + (1 : Int32)))), .ref 0], i_S X M)) rfl rfl (by decide) g72 rfl ?_
  obtain ⟨q73, hq73, h⟩ := i_bdE h
  refine i_rcall (k := 154) (as := [.ref 0, .int (X.2 (Int32.toNatClampNeg (l3 + (1 : Int32)))), .int (X.2 (Int32.toNatClampNeg (l3 + (2 : Int32))))]) (cf1 := (1178, [some (.ref 100), some (.ref 0), some (.ref 50), some (.int l3)], [], i_S X M)) (cf' := (1178, [some (.ref 100), some (.ref 0), some (.ref 50), some (.int l3)], [.int q73.1], i_S X q73.2)) rfl (ok_b_keep (by omega) hq73) rfl ?_
  refine i_rs 5 (cf' := (1183, [some (.ref 100), some (.ref 0), some (.ref 50), some (.int l3)], [.int (l3 + (1 : Int32)), .ref 100, .ref 50, .int q73.1], i_S X q73.2)) rfl ?_
  refine i_riald (n := X.1) (cf' := (1184, [some (.ref 100), some (.ref 0), some (.ref 50), some (.int l3)], [.int (X.2 (Int32.toNatClampNeg (l3 + (1 : Int32)))), .ref 50, .int q73.1], i_S X q73.2)) rfl rfl (by decide) g71 rfl ?_
  refine i_rs 4 (cf' := (1188, [some (.ref 100), some (.ref 0), some (.ref 50), some (.int l3)], [.int (l3 + (2 : Int32)), .ref 100, .int (X.2 (Int32.toNatClampNeg (l3 + (1 : Int32)))), .ref 50, .int q73.1], i_S X q73.2)) rfl ?_
  refine i_riald (n := X.1) (cf' := (1189, [some (.ref 100), some (.ref 0), some (.ref 50), some (.int l3)], [.int (X.2 (Int32.toNatClampNeg (l3 + (2 : Int32)))), .int (X.2 (Int32.toNatClampNeg (l3 + (1 : Int32)))), .ref 50, .int q73.1], i_S X q73.2)) rfl rfl (by decide) g72 rfl ?_
  obtain ⟨q74, hq74, h⟩ := i_bdE h
  refine i_rcall (k := 255) (as := [.ref 50, .int (X.2 (Int32.toNatClampNeg (l3 + (1 : Int32)))), .int (X.2 (Int32.toNatClampNeg (l3 + (2 : Int32))))]) (cf1 := (1192, [some (.ref 100), some (.ref 0), some (.ref 50), some (.int l3)], [.int q73.1], i_S X q73.2)) (cf' := (1192, [some (.ref 100), some (.ref 0), some (.ref 50), some (.int l3)], [.int q74.1, .int q73.1], i_S X q74.2)) rfl (ok_r_keep (by omega) hq74) rfl ?_
  by_cases c75 : q73.1 = q74.1
  · replace h := (if_pos c75).symm.trans h
    refine i_rbT (c := q73.1 = q74.1) (t := 1466) (n := 1195) rfl c75 ?_
    refine i_rs 2 (cf' := (18, [some (.ref 100), some (.ref 0), some (.ref 50), some (.int (l3 + (6 : Int32)))], [], i_S X q74.2)) rfl ?_
    refine i_fg (lv' := [some (.ref 100), some (.ref 0), some (.ref 50), some (.int (l3 + (6 : Int32)))]) (And.intro rfl (And.intro rfl (And.intro rfl (And.intro rfl True.intro)))) ?_
    exact hself (l3 + (6 : Int32)) q74.2 _ h
  · replace h := (if_neg c75).symm.trans h
    refine i_rbF (c := q73.1 = q74.1) (t := 1466) (n := 1195) rfl c75 ?_
    refine i_rs 1 (cf' := (1196, [some (.ref 100), some (.ref 0), some (.ref 50), some (.int l3)], [.int (0 : Int32)], i_S X q74.2)) rfl ?_
    obtain rfl := Option.some.inj h
    exact i_rretZ rfl (Or.inl rfl) rfl
def w_law_B1141 (X : Nat × (Nat → Int32)) (self : Int32 → I_M → Option (Int32 × I_M)) (l3 : Int32) (M : I_M) : Option (Int32 × I_M) :=
  i_g (l3 + (1 : Int32)) X.1 (Option.bind (b_trace (X.2 (Int32.toNatClampNeg (l3 + (1 : Int32)))) M) (fun q231 => Option.bind (r_trace (X.2 (Int32.toNatClampNeg (l3 + (1 : Int32)))) q231.2) (fun q232 => (if q231.1 = q232.1 then
      self (l3 + (6 : Int32)) q232.2
    else
      some ((0 : Int32), q232.2)))))
set_option maxHeartbeats 20000000 in
set_option maxRecDepth 100000 in
theorem ok_w_law_B1141 {X : Nat × (Nat → Int32)} {d : Nat} {self : Int32 → I_M → Option (Int32 × I_M)} {l3 : Int32} {M : I_M} {r : (Int32 × I_M)} (hself : ∀ (m3 : Int32) (M : I_M) (r : (Int32 × I_M)), self m3 M = some r → I_RnE (I_Ex d) i_c266 (18, [some (.ref 100), some (.ref 0), some (.ref 50), some (.int m3)], [], i_S X M) (some (.int r.1)) (i_S X r.2)) (hd : 81 ≤ d + 1) (h : w_law_B1141 X self l3 M = some r) : I_RnE (I_Ex d) i_c266 (1141, [some (.ref 100), some (.ref 0), some (.ref 50), some (.int l3)], [], i_S X M) (some (.int r.1)) (i_S X r.2) := by
  unfold w_law_B1141 at h
  refine i_rs 5 (cf' := (1146, [some (.ref 100), some (.ref 0), some (.ref 50), some (.int l3)], [.int (l3 + (1 : Int32)), .ref 100, .ref 0], i_S X M)) rfl ?_
  obtain ⟨g230, h⟩ := i_gE h
  refine i_riald (n := X.1) (cf' := (1147, [some (.ref 100), some (.ref 0), some (.ref 50), some (.int l3)], [.int (X.2 (Int32.toNatClampNeg (l3 + (1 : Int32)))), .ref 0], i_S X M)) rfl rfl (by decide) g230 rfl ?_
  obtain ⟨q231, hq231, h⟩ := i_bdE h
  refine i_rcall (k := 152) (as := [.ref 0, .int (X.2 (Int32.toNatClampNeg (l3 + (1 : Int32))))]) (cf1 := (1150, [some (.ref 100), some (.ref 0), some (.ref 50), some (.int l3)], [], i_S X M)) (cf' := (1150, [some (.ref 100), some (.ref 0), some (.ref 50), some (.int l3)], [.int q231.1], i_S X q231.2)) rfl (ok_b_trace (by omega) hq231) rfl ?_
  refine i_rs 5 (cf' := (1155, [some (.ref 100), some (.ref 0), some (.ref 50), some (.int l3)], [.int (l3 + (1 : Int32)), .ref 100, .ref 50, .int q231.1], i_S X q231.2)) rfl ?_
  refine i_riald (n := X.1) (cf' := (1156, [some (.ref 100), some (.ref 0), some (.ref 50), some (.int l3)], [.int (X.2 (Int32.toNatClampNeg (l3 + (1 : Int32)))), .ref 50, .int q231.1], i_S X q231.2)) rfl rfl (by decide) g230 rfl ?_
  obtain ⟨q232, hq232, h⟩ := i_bdE h
  refine i_rcall (k := 254) (as := [.ref 50, .int (X.2 (Int32.toNatClampNeg (l3 + (1 : Int32))))]) (cf1 := (1159, [some (.ref 100), some (.ref 0), some (.ref 50), some (.int l3)], [.int q231.1], i_S X q231.2)) (cf' := (1159, [some (.ref 100), some (.ref 0), some (.ref 50), some (.int l3)], [.int q232.1, .int q231.1], i_S X q232.2)) rfl (ok_r_trace (by omega) hq232) rfl ?_
  by_cases c233 : q231.1 = q232.1
  · replace h := (if_pos c233).symm.trans h
    refine i_rbT (c := q231.1 = q232.1) (t := 1466) (n := 1162) rfl c233 ?_
    refine i_rs 2 (cf' := (18, [some (.ref 100), some (.ref 0), some (.ref 50), some (.int (l3 + (6 : Int32)))], [], i_S X q232.2)) rfl ?_
    refine i_fg (lv' := [some (.ref 100), some (.ref 0), some (.ref 50), some (.int (l3 + (6 : Int32)))]) (And.intro rfl (And.intro rfl (And.intro rfl (And.intro rfl True.intro)))) ?_
    exact hself (l3 + (6 : Int32)) q232.2 _ h
  · replace h := (if_neg c233).symm.trans h
    refine i_rbF (c := q231.1 = q232.1) (t := 1466) (n := 1162) rfl c233 ?_
    refine i_rs 1 (cf' := (1163, [some (.ref 100), some (.ref 0), some (.ref 50), some (.int l3)], [.int (0 : Int32)], i_S X q232.2)) rfl ?_
    obtain rfl := Option.some.inj h
    exact i_rretZ rfl (Or.inl rfl) rfl
def w_law_B1098 (X : Nat × (Nat → Int32)) (self : Int32 → I_M → Option (Int32 × I_M)) (l3 : Int32) (M : I_M) : Option (Int32 × I_M) :=
  i_g (l3 + (1 : Int32)) X.1 (i_g (l3 + (2 : Int32)) X.1 (i_g (l3 + (3 : Int32)) X.1 (Option.bind (b_act (X.2 (Int32.toNatClampNeg (l3 + (1 : Int32)))) (X.2 (Int32.toNatClampNeg (l3 + (2 : Int32)))) (X.2 (Int32.toNatClampNeg (l3 + (3 : Int32)))) M) (fun q163 => Option.bind (r_act (X.2 (Int32.toNatClampNeg (l3 + (1 : Int32)))) (X.2 (Int32.toNatClampNeg (l3 + (2 : Int32)))) (X.2 (Int32.toNatClampNeg (l3 + (3 : Int32)))) q163.2) (fun q164 => (if q163.1 = q164.1 then
      self (l3 + (6 : Int32)) q164.2
    else
      some ((0 : Int32), q164.2)))))))
set_option maxHeartbeats 20000000 in
set_option maxRecDepth 100000 in
theorem ok_w_law_B1098 {X : Nat × (Nat → Int32)} {d : Nat} {self : Int32 → I_M → Option (Int32 × I_M)} {l3 : Int32} {M : I_M} {r : (Int32 × I_M)} (hself : ∀ (m3 : Int32) (M : I_M) (r : (Int32 × I_M)), self m3 M = some r → I_RnE (I_Ex d) i_c266 (18, [some (.ref 100), some (.ref 0), some (.ref 50), some (.int m3)], [], i_S X M) (some (.int r.1)) (i_S X r.2)) (hd : 81 ≤ d + 1) (h : w_law_B1098 X self l3 M = some r) : I_RnE (I_Ex d) i_c266 (1098, [some (.ref 100), some (.ref 0), some (.ref 50), some (.int l3)], [], i_S X M) (some (.int r.1)) (i_S X r.2) := by
  unfold w_law_B1098 at h
  refine i_rs 5 (cf' := (1103, [some (.ref 100), some (.ref 0), some (.ref 50), some (.int l3)], [.int (l3 + (1 : Int32)), .ref 100, .ref 0], i_S X M)) rfl ?_
  obtain ⟨g160, h⟩ := i_gE h
  refine i_riald (n := X.1) (cf' := (1104, [some (.ref 100), some (.ref 0), some (.ref 50), some (.int l3)], [.int (X.2 (Int32.toNatClampNeg (l3 + (1 : Int32)))), .ref 0], i_S X M)) rfl rfl (by decide) g160 rfl ?_
  refine i_rs 4 (cf' := (1108, [some (.ref 100), some (.ref 0), some (.ref 50), some (.int l3)], [.int (l3 + (2 : Int32)), .ref 100, .int (X.2 (Int32.toNatClampNeg (l3 + (1 : Int32)))), .ref 0], i_S X M)) rfl ?_
  obtain ⟨g161, h⟩ := i_gE h
  refine i_riald (n := X.1) (cf' := (1109, [some (.ref 100), some (.ref 0), some (.ref 50), some (.int l3)], [.int (X.2 (Int32.toNatClampNeg (l3 + (2 : Int32)))), .int (X.2 (Int32.toNatClampNeg (l3 + (1 : Int32)))), .ref 0], i_S X M)) rfl rfl (by decide) g161 rfl ?_
  refine i_rs 4 (cf' := (1113, [some (.ref 100), some (.ref 0), some (.ref 50), some (.int l3)], [.int (l3 + (3 : Int32)), .ref 100, .int (X.2 (Int32.toNatClampNeg (l3 + (2 : Int32)))), .int (X.2 (Int32.toNatClampNeg (l3 + (1 : Int32)))), .ref 0], i_S X M)) rfl ?_
  obtain ⟨g162, h⟩ := i_gE h
  refine i_riald (n := X.1) (cf' := (1114, [some (.ref 100), some (.ref 0), some (.ref 50), some (.int l3)], [.int (X.2 (Int32.toNatClampNeg (l3 + (3 : Int32)))), .int (X.2 (Int32.toNatClampNeg (l3 + (2 : Int32)))), .int (X.2 (Int32.toNatClampNeg (l3 + (1 : Int32)))), .ref 0], i_S X M)) rfl rfl (by decide) g162 rfl ?_
  obtain ⟨q163, hq163, h⟩ := i_bdE h
  refine i_rcall (k := 143) (as := [.ref 0, .int (X.2 (Int32.toNatClampNeg (l3 + (1 : Int32)))), .int (X.2 (Int32.toNatClampNeg (l3 + (2 : Int32)))), .int (X.2 (Int32.toNatClampNeg (l3 + (3 : Int32))))]) (cf1 := (1117, [some (.ref 100), some (.ref 0), some (.ref 50), some (.int l3)], [], i_S X M)) (cf' := (1117, [some (.ref 100), some (.ref 0), some (.ref 50), some (.int l3)], [.int q163.1], i_S X q163.2)) rfl (ok_b_act (by omega) hq163) rfl ?_
  refine i_rs 5 (cf' := (1122, [some (.ref 100), some (.ref 0), some (.ref 50), some (.int l3)], [.int (l3 + (1 : Int32)), .ref 100, .ref 50, .int q163.1], i_S X q163.2)) rfl ?_
  refine i_riald (n := X.1) (cf' := (1123, [some (.ref 100), some (.ref 0), some (.ref 50), some (.int l3)], [.int (X.2 (Int32.toNatClampNeg (l3 + (1 : Int32)))), .ref 50, .int q163.1], i_S X q163.2)) rfl rfl (by decide) g160 rfl ?_
  refine i_rs 4 (cf' := (1127, [some (.ref 100), some (.ref 0), some (.ref 50), some (.int l3)], [.int (l3 + (2 : Int32)), .ref 100, .int (X.2 (Int32.toNatClampNeg (l3 + (1 : Int32)))), .ref 50, .int q163.1], i_S X q163.2)) rfl ?_
  refine i_riald (n := X.1) (cf' := (1128, [some (.ref 100), some (.ref 0), some (.ref 50), some (.int l3)], [.int (X.2 (Int32.toNatClampNeg (l3 + (2 : Int32)))), .int (X.2 (Int32.toNatClampNeg (l3 + (1 : Int32)))), .ref 50, .int q163.1], i_S X q163.2)) rfl rfl (by decide) g161 rfl ?_
  refine i_rs 4 (cf' := (1132, [some (.ref 100), some (.ref 0), some (.ref 50), some (.int l3)], [.int (l3 + (3 : Int32)), .ref 100, .int (X.2 (Int32.toNatClampNeg (l3 + (2 : Int32)))), .int (X.2 (Int32.toNatClampNeg (l3 + (1 : Int32)))), .ref 50, .int q163.1], i_S X q163.2)) rfl ?_
  refine i_riald (n := X.1) (cf' := (1133, [some (.ref 100), some (.ref 0), some (.ref 50), some (.int l3)], [.int (X.2 (Int32.toNatClampNeg (l3 + (3 : Int32)))), .int (X.2 (Int32.toNatClampNeg (l3 + (2 : Int32)))), .int (X.2 (Int32.toNatClampNeg (l3 + (1 : Int32)))), .ref 50, .int q163.1], i_S X q163.2)) rfl rfl (by decide) g162 rfl ?_
  obtain ⟨q164, hq164, h⟩ := i_bdE h
  refine i_rcall (k := 247) (as := [.ref 50, .int (X.2 (Int32.toNatClampNeg (l3 + (1 : Int32)))), .int (X.2 (Int32.toNatClampNeg (l3 + (2 : Int32)))), .int (X.2 (Int32.toNatClampNeg (l3 + (3 : Int32))))]) (cf1 := (1136, [some (.ref 100), some (.ref 0), some (.ref 50), some (.int l3)], [.int q163.1], i_S X q163.2)) (cf' := (1136, [some (.ref 100), some (.ref 0), some (.ref 50), some (.int l3)], [.int q164.1, .int q163.1], i_S X q164.2)) rfl (ok_r_act (by omega) hq164) rfl ?_
  by_cases c165 : q163.1 = q164.1
  · replace h := (if_pos c165).symm.trans h
    refine i_rbT (c := q163.1 = q164.1) (t := 1466) (n := 1139) rfl c165 ?_
    refine i_rs 2 (cf' := (18, [some (.ref 100), some (.ref 0), some (.ref 50), some (.int (l3 + (6 : Int32)))], [], i_S X q164.2)) rfl ?_
    refine i_fg (lv' := [some (.ref 100), some (.ref 0), some (.ref 50), some (.int (l3 + (6 : Int32)))]) (And.intro rfl (And.intro rfl (And.intro rfl (And.intro rfl True.intro)))) ?_
    exact hself (l3 + (6 : Int32)) q164.2 _ h
  · replace h := (if_neg c165).symm.trans h
    refine i_rbF (c := q163.1 = q164.1) (t := 1466) (n := 1139) rfl c165 ?_
    refine i_rs 1 (cf' := (1140, [some (.ref 100), some (.ref 0), some (.ref 50), some (.int l3)], [.int (0 : Int32)], i_S X q164.2)) rfl ?_
    obtain rfl := Option.some.inj h
    exact i_rretZ rfl (Or.inl rfl) rfl
def w_law_B1075 (X : Nat × (Nat → Int32)) (self : Int32 → I_M → Option (Int32 × I_M)) (l3 : Int32) (M : I_M) : Option (Int32 × I_M) :=
  i_g (l3 + (1 : Int32)) X.1 (Option.bind (b_body (X.2 (Int32.toNatClampNeg (l3 + (1 : Int32)))) M) (fun q133 => Option.bind (r_body (X.2 (Int32.toNatClampNeg (l3 + (1 : Int32)))) q133.2) (fun q134 => (if q133.1 = q134.1 then
      self (l3 + (6 : Int32)) q134.2
    else
      some ((0 : Int32), q134.2)))))
set_option maxHeartbeats 20000000 in
set_option maxRecDepth 100000 in
theorem ok_w_law_B1075 {X : Nat × (Nat → Int32)} {d : Nat} {self : Int32 → I_M → Option (Int32 × I_M)} {l3 : Int32} {M : I_M} {r : (Int32 × I_M)} (hself : ∀ (m3 : Int32) (M : I_M) (r : (Int32 × I_M)), self m3 M = some r → I_RnE (I_Ex d) i_c266 (18, [some (.ref 100), some (.ref 0), some (.ref 50), some (.int m3)], [], i_S X M) (some (.int r.1)) (i_S X r.2)) (hd : 81 ≤ d + 1) (h : w_law_B1075 X self l3 M = some r) : I_RnE (I_Ex d) i_c266 (1075, [some (.ref 100), some (.ref 0), some (.ref 50), some (.int l3)], [], i_S X M) (some (.int r.1)) (i_S X r.2) := by
  unfold w_law_B1075 at h
  refine i_rs 5 (cf' := (1080, [some (.ref 100), some (.ref 0), some (.ref 50), some (.int l3)], [.int (l3 + (1 : Int32)), .ref 100, .ref 0], i_S X M)) rfl ?_
  obtain ⟨g132, h⟩ := i_gE h
  refine i_riald (n := X.1) (cf' := (1081, [some (.ref 100), some (.ref 0), some (.ref 50), some (.int l3)], [.int (X.2 (Int32.toNatClampNeg (l3 + (1 : Int32)))), .ref 0], i_S X M)) rfl rfl (by decide) g132 rfl ?_
  obtain ⟨q133, hq133, h⟩ := i_bdE h
  refine i_rcall (k := 140) (as := [.ref 0, .int (X.2 (Int32.toNatClampNeg (l3 + (1 : Int32))))]) (cf1 := (1084, [some (.ref 100), some (.ref 0), some (.ref 50), some (.int l3)], [], i_S X M)) (cf' := (1084, [some (.ref 100), some (.ref 0), some (.ref 50), some (.int l3)], [.int q133.1], i_S X q133.2)) rfl (ok_b_body (by omega) hq133) rfl ?_
  refine i_rs 5 (cf' := (1089, [some (.ref 100), some (.ref 0), some (.ref 50), some (.int l3)], [.int (l3 + (1 : Int32)), .ref 100, .ref 50, .int q133.1], i_S X q133.2)) rfl ?_
  refine i_riald (n := X.1) (cf' := (1090, [some (.ref 100), some (.ref 0), some (.ref 50), some (.int l3)], [.int (X.2 (Int32.toNatClampNeg (l3 + (1 : Int32)))), .ref 50, .int q133.1], i_S X q133.2)) rfl rfl (by decide) g132 rfl ?_
  obtain ⟨q134, hq134, h⟩ := i_bdE h
  refine i_rcall (k := 246) (as := [.ref 50, .int (X.2 (Int32.toNatClampNeg (l3 + (1 : Int32))))]) (cf1 := (1093, [some (.ref 100), some (.ref 0), some (.ref 50), some (.int l3)], [.int q133.1], i_S X q133.2)) (cf' := (1093, [some (.ref 100), some (.ref 0), some (.ref 50), some (.int l3)], [.int q134.1, .int q133.1], i_S X q134.2)) rfl (ok_r_body (by omega) hq134) rfl ?_
  by_cases c135 : q133.1 = q134.1
  · replace h := (if_pos c135).symm.trans h
    refine i_rbT (c := q133.1 = q134.1) (t := 1466) (n := 1096) rfl c135 ?_
    refine i_rs 2 (cf' := (18, [some (.ref 100), some (.ref 0), some (.ref 50), some (.int (l3 + (6 : Int32)))], [], i_S X q134.2)) rfl ?_
    refine i_fg (lv' := [some (.ref 100), some (.ref 0), some (.ref 50), some (.int (l3 + (6 : Int32)))]) (And.intro rfl (And.intro rfl (And.intro rfl (And.intro rfl True.intro)))) ?_
    exact hself (l3 + (6 : Int32)) q134.2 _ h
  · replace h := (if_neg c135).symm.trans h
    refine i_rbF (c := q133.1 = q134.1) (t := 1466) (n := 1096) rfl c135 ?_
    refine i_rs 1 (cf' := (1097, [some (.ref 100), some (.ref 0), some (.ref 50), some (.int l3)], [.int (0 : Int32)], i_S X q134.2)) rfl ?_
    obtain rfl := Option.some.inj h
    exact i_rretZ rfl (Or.inl rfl) rfl
def w_law_B1062 (X : Nat × (Nat → Int32)) (self : Int32 → I_M → Option (Int32 × I_M)) (l3 : Int32) (M : I_M) : Option (Int32 × I_M) :=
  Option.bind (b_redo M) (fun q113 => Option.bind (r_redo q113.2) (fun q114 => (if q113.1 = q114.1 then
      self (l3 + (6 : Int32)) q114.2
    else
      some ((0 : Int32), q114.2))))
set_option maxHeartbeats 20000000 in
set_option maxRecDepth 100000 in
theorem ok_w_law_B1062 {X : Nat × (Nat → Int32)} {d : Nat} {self : Int32 → I_M → Option (Int32 × I_M)} {l3 : Int32} {M : I_M} {r : (Int32 × I_M)} (hself : ∀ (m3 : Int32) (M : I_M) (r : (Int32 × I_M)), self m3 M = some r → I_RnE (I_Ex d) i_c266 (18, [some (.ref 100), some (.ref 0), some (.ref 50), some (.int m3)], [], i_S X M) (some (.int r.1)) (i_S X r.2)) (hd : 81 ≤ d + 1) (h : w_law_B1062 X self l3 M = some r) : I_RnE (I_Ex d) i_c266 (1062, [some (.ref 100), some (.ref 0), some (.ref 50), some (.int l3)], [], i_S X M) (some (.int r.1)) (i_S X r.2) := by
  unfold w_law_B1062 at h
  refine i_rs 1 (cf' := (1063, [some (.ref 100), some (.ref 0), some (.ref 50), some (.int l3)], [.ref 0], i_S X M)) rfl ?_
  obtain ⟨q113, hq113, h⟩ := i_bdE h
  refine i_rcall (k := 138) (as := [.ref 0]) (cf1 := (1066, [some (.ref 100), some (.ref 0), some (.ref 50), some (.int l3)], [], i_S X M)) (cf' := (1066, [some (.ref 100), some (.ref 0), some (.ref 50), some (.int l3)], [.int q113.1], i_S X q113.2)) rfl (ok_b_redo (by omega) hq113) rfl ?_
  refine i_rs 1 (cf' := (1067, [some (.ref 100), some (.ref 0), some (.ref 50), some (.int l3)], [.ref 50, .int q113.1], i_S X q113.2)) rfl ?_
  obtain ⟨q114, hq114, h⟩ := i_bdE h
  refine i_rcall (k := 173) (as := [.ref 50]) (cf1 := (1070, [some (.ref 100), some (.ref 0), some (.ref 50), some (.int l3)], [.int q113.1], i_S X q113.2)) (cf' := (1070, [some (.ref 100), some (.ref 0), some (.ref 50), some (.int l3)], [.int q114.1, .int q113.1], i_S X q114.2)) rfl (ok_r_redo (by omega) hq114) rfl ?_
  by_cases c115 : q113.1 = q114.1
  · replace h := (if_pos c115).symm.trans h
    refine i_rbT (c := q113.1 = q114.1) (t := 1466) (n := 1073) rfl c115 ?_
    refine i_rs 2 (cf' := (18, [some (.ref 100), some (.ref 0), some (.ref 50), some (.int (l3 + (6 : Int32)))], [], i_S X q114.2)) rfl ?_
    refine i_fg (lv' := [some (.ref 100), some (.ref 0), some (.ref 50), some (.int (l3 + (6 : Int32)))]) (And.intro rfl (And.intro rfl (And.intro rfl (And.intro rfl True.intro)))) ?_
    exact hself (l3 + (6 : Int32)) q114.2 _ h
  · replace h := (if_neg c115).symm.trans h
    refine i_rbF (c := q113.1 = q114.1) (t := 1466) (n := 1073) rfl c115 ?_
    refine i_rs 1 (cf' := (1074, [some (.ref 100), some (.ref 0), some (.ref 50), some (.int l3)], [.int (0 : Int32)], i_S X q114.2)) rfl ?_
    obtain rfl := Option.some.inj h
    exact i_rretZ rfl (Or.inl rfl) rfl
def w_law_B1049 (X : Nat × (Nat → Int32)) (self : Int32 → I_M → Option (Int32 × I_M)) (l3 : Int32) (M : I_M) : Option (Int32 × I_M) :=
  Option.bind (b_undo M) (fun q80 => Option.bind (r_undo q80.2) (fun q81 => (if q80.1 = q81.1 then
      self (l3 + (6 : Int32)) q81.2
    else
      some ((0 : Int32), q81.2))))
set_option maxHeartbeats 20000000 in
set_option maxRecDepth 100000 in
theorem ok_w_law_B1049 {X : Nat × (Nat → Int32)} {d : Nat} {self : Int32 → I_M → Option (Int32 × I_M)} {l3 : Int32} {M : I_M} {r : (Int32 × I_M)} (hself : ∀ (m3 : Int32) (M : I_M) (r : (Int32 × I_M)), self m3 M = some r → I_RnE (I_Ex d) i_c266 (18, [some (.ref 100), some (.ref 0), some (.ref 50), some (.int m3)], [], i_S X M) (some (.int r.1)) (i_S X r.2)) (hd : 81 ≤ d + 1) (h : w_law_B1049 X self l3 M = some r) : I_RnE (I_Ex d) i_c266 (1049, [some (.ref 100), some (.ref 0), some (.ref 50), some (.int l3)], [], i_S X M) (some (.int r.1)) (i_S X r.2) := by
  unfold w_law_B1049 at h
  refine i_rs 1 (cf' := (1050, [some (.ref 100), some (.ref 0), some (.ref 50), some (.int l3)], [.ref 0], i_S X M)) rfl ?_
  obtain ⟨q80, hq80, h⟩ := i_bdE h
  refine i_rcall (k := 136) (as := [.ref 0]) (cf1 := (1053, [some (.ref 100), some (.ref 0), some (.ref 50), some (.int l3)], [], i_S X M)) (cf' := (1053, [some (.ref 100), some (.ref 0), some (.ref 50), some (.int l3)], [.int q80.1], i_S X q80.2)) rfl (ok_b_undo (by omega) hq80) rfl ?_
  refine i_rs 1 (cf' := (1054, [some (.ref 100), some (.ref 0), some (.ref 50), some (.int l3)], [.ref 50, .int q80.1], i_S X q80.2)) rfl ?_
  obtain ⟨q81, hq81, h⟩ := i_bdE h
  refine i_rcall (k := 172) (as := [.ref 50]) (cf1 := (1057, [some (.ref 100), some (.ref 0), some (.ref 50), some (.int l3)], [.int q80.1], i_S X q80.2)) (cf' := (1057, [some (.ref 100), some (.ref 0), some (.ref 50), some (.int l3)], [.int q81.1, .int q80.1], i_S X q81.2)) rfl (ok_r_undo (by omega) hq81) rfl ?_
  by_cases c82 : q80.1 = q81.1
  · replace h := (if_pos c82).symm.trans h
    refine i_rbT (c := q80.1 = q81.1) (t := 1466) (n := 1060) rfl c82 ?_
    refine i_rs 2 (cf' := (18, [some (.ref 100), some (.ref 0), some (.ref 50), some (.int (l3 + (6 : Int32)))], [], i_S X q81.2)) rfl ?_
    refine i_fg (lv' := [some (.ref 100), some (.ref 0), some (.ref 50), some (.int (l3 + (6 : Int32)))]) (And.intro rfl (And.intro rfl (And.intro rfl (And.intro rfl True.intro)))) ?_
    exact hself (l3 + (6 : Int32)) q81.2 _ h
  · replace h := (if_neg c82).symm.trans h
    refine i_rbF (c := q80.1 = q81.1) (t := 1466) (n := 1060) rfl c82 ?_
    refine i_rs 1 (cf' := (1061, [some (.ref 100), some (.ref 0), some (.ref 50), some (.int l3)], [.int (0 : Int32)], i_S X q81.2)) rfl ?_
    obtain rfl := Option.some.inj h
    exact i_rretZ rfl (Or.inl rfl) rfl
def w_law_B1036 (X : Nat × (Nat → Int32)) (self : Int32 → I_M → Option (Int32 × I_M)) (l3 : Int32) (M : I_M) : Option (Int32 × I_M) :=
  Option.bind (b_back M) (fun q68 => Option.bind (r_back q68.2) (fun q69 => (if q68.1 = q69.1 then
      self (l3 + (6 : Int32)) q69.2
    else
      some ((0 : Int32), q69.2))))
set_option maxHeartbeats 20000000 in
set_option maxRecDepth 100000 in
theorem ok_w_law_B1036 {X : Nat × (Nat → Int32)} {d : Nat} {self : Int32 → I_M → Option (Int32 × I_M)} {l3 : Int32} {M : I_M} {r : (Int32 × I_M)} (hself : ∀ (m3 : Int32) (M : I_M) (r : (Int32 × I_M)), self m3 M = some r → I_RnE (I_Ex d) i_c266 (18, [some (.ref 100), some (.ref 0), some (.ref 50), some (.int m3)], [], i_S X M) (some (.int r.1)) (i_S X r.2)) (hd : 81 ≤ d + 1) (h : w_law_B1036 X self l3 M = some r) : I_RnE (I_Ex d) i_c266 (1036, [some (.ref 100), some (.ref 0), some (.ref 50), some (.int l3)], [], i_S X M) (some (.int r.1)) (i_S X r.2) := by
  unfold w_law_B1036 at h
  refine i_rs 1 (cf' := (1037, [some (.ref 100), some (.ref 0), some (.ref 50), some (.int l3)], [.ref 0], i_S X M)) rfl ?_
  obtain ⟨q68, hq68, h⟩ := i_bdE h
  refine i_rcall (k := 135) (as := [.ref 0]) (cf1 := (1040, [some (.ref 100), some (.ref 0), some (.ref 50), some (.int l3)], [], i_S X M)) (cf' := (1040, [some (.ref 100), some (.ref 0), some (.ref 50), some (.int l3)], [.int q68.1], i_S X q68.2)) rfl (ok_b_back (by omega) hq68) rfl ?_
  refine i_rs 1 (cf' := (1041, [some (.ref 100), some (.ref 0), some (.ref 50), some (.int l3)], [.ref 50, .int q68.1], i_S X q68.2)) rfl ?_
  obtain ⟨q69, hq69, h⟩ := i_bdE h
  refine i_rcall (k := 245) (as := [.ref 50]) (cf1 := (1044, [some (.ref 100), some (.ref 0), some (.ref 50), some (.int l3)], [.int q68.1], i_S X q68.2)) (cf' := (1044, [some (.ref 100), some (.ref 0), some (.ref 50), some (.int l3)], [.int q69.1, .int q68.1], i_S X q69.2)) rfl (ok_r_back (by omega) hq69) rfl ?_
  by_cases c70 : q68.1 = q69.1
  · replace h := (if_pos c70).symm.trans h
    refine i_rbT (c := q68.1 = q69.1) (t := 1466) (n := 1047) rfl c70 ?_
    refine i_rs 2 (cf' := (18, [some (.ref 100), some (.ref 0), some (.ref 50), some (.int (l3 + (6 : Int32)))], [], i_S X q69.2)) rfl ?_
    refine i_fg (lv' := [some (.ref 100), some (.ref 0), some (.ref 50), some (.int (l3 + (6 : Int32)))]) (And.intro rfl (And.intro rfl (And.intro rfl (And.intro rfl True.intro)))) ?_
    exact hself (l3 + (6 : Int32)) q69.2 _ h
  · replace h := (if_neg c70).symm.trans h
    refine i_rbF (c := q68.1 = q69.1) (t := 1466) (n := 1047) rfl c70 ?_
    refine i_rs 1 (cf' := (1048, [some (.ref 100), some (.ref 0), some (.ref 50), some (.int l3)], [.int (0 : Int32)], i_S X q69.2)) rfl ?_
    obtain rfl := Option.some.inj h
    exact i_rretZ rfl (Or.inl rfl) rfl
def w_law_B1023 (X : Nat × (Nat → Int32)) (self : Int32 → I_M → Option (Int32 × I_M)) (l3 : Int32) (M : I_M) : Option (Int32 × I_M) :=
  Option.bind (b_image M) (fun q234 => Option.bind (r_image q234.2) (fun q235 => (if q234.1 = q235.1 then
      self (l3 + (6 : Int32)) q235.2
    else
      some ((0 : Int32), q235.2))))
set_option maxHeartbeats 20000000 in
set_option maxRecDepth 100000 in
theorem ok_w_law_B1023 {X : Nat × (Nat → Int32)} {d : Nat} {self : Int32 → I_M → Option (Int32 × I_M)} {l3 : Int32} {M : I_M} {r : (Int32 × I_M)} (hself : ∀ (m3 : Int32) (M : I_M) (r : (Int32 × I_M)), self m3 M = some r → I_RnE (I_Ex d) i_c266 (18, [some (.ref 100), some (.ref 0), some (.ref 50), some (.int m3)], [], i_S X M) (some (.int r.1)) (i_S X r.2)) (hd : 81 ≤ d + 1) (h : w_law_B1023 X self l3 M = some r) : I_RnE (I_Ex d) i_c266 (1023, [some (.ref 100), some (.ref 0), some (.ref 50), some (.int l3)], [], i_S X M) (some (.int r.1)) (i_S X r.2) := by
  unfold w_law_B1023 at h
  refine i_rs 1 (cf' := (1024, [some (.ref 100), some (.ref 0), some (.ref 50), some (.int l3)], [.ref 0], i_S X M)) rfl ?_
  obtain ⟨q234, hq234, h⟩ := i_bdE h
  refine i_rcall (k := 133) (as := [.ref 0]) (cf1 := (1027, [some (.ref 100), some (.ref 0), some (.ref 50), some (.int l3)], [], i_S X M)) (cf' := (1027, [some (.ref 100), some (.ref 0), some (.ref 50), some (.int l3)], [.int q234.1], i_S X q234.2)) rfl (ok_b_image (by omega) hq234) rfl ?_
  refine i_rs 1 (cf' := (1028, [some (.ref 100), some (.ref 0), some (.ref 50), some (.int l3)], [.ref 50, .int q234.1], i_S X q234.2)) rfl ?_
  obtain ⟨q235, hq235, h⟩ := i_bdE h
  refine i_rcall (k := 244) (as := [.ref 50]) (cf1 := (1031, [some (.ref 100), some (.ref 0), some (.ref 50), some (.int l3)], [.int q234.1], i_S X q234.2)) (cf' := (1031, [some (.ref 100), some (.ref 0), some (.ref 50), some (.int l3)], [.int q235.1, .int q234.1], i_S X q235.2)) rfl (ok_r_image (by omega) hq235) rfl ?_
  by_cases c236 : q234.1 = q235.1
  · replace h := (if_pos c236).symm.trans h
    refine i_rbT (c := q234.1 = q235.1) (t := 1466) (n := 1034) rfl c236 ?_
    refine i_rs 2 (cf' := (18, [some (.ref 100), some (.ref 0), some (.ref 50), some (.int (l3 + (6 : Int32)))], [], i_S X q235.2)) rfl ?_
    refine i_fg (lv' := [some (.ref 100), some (.ref 0), some (.ref 50), some (.int (l3 + (6 : Int32)))]) (And.intro rfl (And.intro rfl (And.intro rfl (And.intro rfl True.intro)))) ?_
    exact hself (l3 + (6 : Int32)) q235.2 _ h
  · replace h := (if_neg c236).symm.trans h
    refine i_rbF (c := q234.1 = q235.1) (t := 1466) (n := 1034) rfl c236 ?_
    refine i_rs 1 (cf' := (1035, [some (.ref 100), some (.ref 0), some (.ref 50), some (.int l3)], [.int (0 : Int32)], i_S X q235.2)) rfl ?_
    obtain rfl := Option.some.inj h
    exact i_rretZ rfl (Or.inl rfl) rfl
def w_law_B1000 (X : Nat × (Nat → Int32)) (self : Int32 → I_M → Option (Int32 × I_M)) (l3 : Int32) (M : I_M) : Option (Int32 × I_M) :=
  i_g (l3 + (1 : Int32)) X.1 (Option.bind (b_judge (X.2 (Int32.toNatClampNeg (l3 + (1 : Int32)))) M) (fun q206 => Option.bind (r_judge (X.2 (Int32.toNatClampNeg (l3 + (1 : Int32)))) q206.2) (fun q207 => (if q206.1 = q207.1 then
      self (l3 + (6 : Int32)) q207.2
    else
      some ((0 : Int32), q207.2)))))
set_option maxHeartbeats 20000000 in
set_option maxRecDepth 100000 in
theorem ok_w_law_B1000 {X : Nat × (Nat → Int32)} {d : Nat} {self : Int32 → I_M → Option (Int32 × I_M)} {l3 : Int32} {M : I_M} {r : (Int32 × I_M)} (hself : ∀ (m3 : Int32) (M : I_M) (r : (Int32 × I_M)), self m3 M = some r → I_RnE (I_Ex d) i_c266 (18, [some (.ref 100), some (.ref 0), some (.ref 50), some (.int m3)], [], i_S X M) (some (.int r.1)) (i_S X r.2)) (hd : 81 ≤ d + 1) (h : w_law_B1000 X self l3 M = some r) : I_RnE (I_Ex d) i_c266 (1000, [some (.ref 100), some (.ref 0), some (.ref 50), some (.int l3)], [], i_S X M) (some (.int r.1)) (i_S X r.2) := by
  unfold w_law_B1000 at h
  refine i_rs 5 (cf' := (1005, [some (.ref 100), some (.ref 0), some (.ref 50), some (.int l3)], [.int (l3 + (1 : Int32)), .ref 100, .ref 0], i_S X M)) rfl ?_
  obtain ⟨g205, h⟩ := i_gE h
  refine i_riald (n := X.1) (cf' := (1006, [some (.ref 100), some (.ref 0), some (.ref 50), some (.int l3)], [.int (X.2 (Int32.toNatClampNeg (l3 + (1 : Int32)))), .ref 0], i_S X M)) rfl rfl (by decide) g205 rfl ?_
  obtain ⟨q206, hq206, h⟩ := i_bdE h
  refine i_rcall (k := 132) (as := [.ref 0, .int (X.2 (Int32.toNatClampNeg (l3 + (1 : Int32))))]) (cf1 := (1009, [some (.ref 100), some (.ref 0), some (.ref 50), some (.int l3)], [], i_S X M)) (cf' := (1009, [some (.ref 100), some (.ref 0), some (.ref 50), some (.int l3)], [.int q206.1], i_S X q206.2)) rfl (ok_b_judge (by omega) hq206) rfl ?_
  refine i_rs 5 (cf' := (1014, [some (.ref 100), some (.ref 0), some (.ref 50), some (.int l3)], [.int (l3 + (1 : Int32)), .ref 100, .ref 50, .int q206.1], i_S X q206.2)) rfl ?_
  refine i_riald (n := X.1) (cf' := (1015, [some (.ref 100), some (.ref 0), some (.ref 50), some (.int l3)], [.int (X.2 (Int32.toNatClampNeg (l3 + (1 : Int32)))), .ref 50, .int q206.1], i_S X q206.2)) rfl rfl (by decide) g205 rfl ?_
  obtain ⟨q207, hq207, h⟩ := i_bdE h
  refine i_rcall (k := 243) (as := [.ref 50, .int (X.2 (Int32.toNatClampNeg (l3 + (1 : Int32))))]) (cf1 := (1018, [some (.ref 100), some (.ref 0), some (.ref 50), some (.int l3)], [.int q206.1], i_S X q206.2)) (cf' := (1018, [some (.ref 100), some (.ref 0), some (.ref 50), some (.int l3)], [.int q207.1, .int q206.1], i_S X q207.2)) rfl (ok_r_judge (by omega) hq207) rfl ?_
  by_cases c208 : q206.1 = q207.1
  · replace h := (if_pos c208).symm.trans h
    refine i_rbT (c := q206.1 = q207.1) (t := 1466) (n := 1021) rfl c208 ?_
    refine i_rs 2 (cf' := (18, [some (.ref 100), some (.ref 0), some (.ref 50), some (.int (l3 + (6 : Int32)))], [], i_S X q207.2)) rfl ?_
    refine i_fg (lv' := [some (.ref 100), some (.ref 0), some (.ref 50), some (.int (l3 + (6 : Int32)))]) (And.intro rfl (And.intro rfl (And.intro rfl (And.intro rfl True.intro)))) ?_
    exact hself (l3 + (6 : Int32)) q207.2 _ h
  · replace h := (if_neg c208).symm.trans h
    refine i_rbF (c := q206.1 = q207.1) (t := 1466) (n := 1021) rfl c208 ?_
    refine i_rs 1 (cf' := (1022, [some (.ref 100), some (.ref 0), some (.ref 50), some (.int l3)], [.int (0 : Int32)], i_S X q207.2)) rfl ?_
    obtain rfl := Option.some.inj h
    exact i_rretZ rfl (Or.inl rfl) rfl
def w_law_B967 (X : Nat × (Nat → Int32)) (self : Int32 → I_M → Option (Int32 × I_M)) (l3 : Int32) (M : I_M) : Option (Int32 × I_M) :=
  i_g (l3 + (1 : Int32)) X.1 (i_g (l3 + (2 : Int32)) X.1 (Option.bind (b_dug (X.2 (Int32.toNatClampNeg (l3 + (1 : Int32)))) (X.2 (Int32.toNatClampNeg (l3 + (2 : Int32)))) M) (fun q157 => Option.bind (r_dug (X.2 (Int32.toNatClampNeg (l3 + (1 : Int32)))) (X.2 (Int32.toNatClampNeg (l3 + (2 : Int32)))) q157.2) (fun q158 => (if q157.1 = q158.1 then
      self (l3 + (6 : Int32)) q158.2
    else
      some ((0 : Int32), q158.2))))))
set_option maxHeartbeats 20000000 in
set_option maxRecDepth 100000 in
theorem ok_w_law_B967 {X : Nat × (Nat → Int32)} {d : Nat} {self : Int32 → I_M → Option (Int32 × I_M)} {l3 : Int32} {M : I_M} {r : (Int32 × I_M)} (hself : ∀ (m3 : Int32) (M : I_M) (r : (Int32 × I_M)), self m3 M = some r → I_RnE (I_Ex d) i_c266 (18, [some (.ref 100), some (.ref 0), some (.ref 50), some (.int m3)], [], i_S X M) (some (.int r.1)) (i_S X r.2)) (hd : 81 ≤ d + 1) (h : w_law_B967 X self l3 M = some r) : I_RnE (I_Ex d) i_c266 (967, [some (.ref 100), some (.ref 0), some (.ref 50), some (.int l3)], [], i_S X M) (some (.int r.1)) (i_S X r.2) := by
  unfold w_law_B967 at h
  refine i_rs 5 (cf' := (972, [some (.ref 100), some (.ref 0), some (.ref 50), some (.int l3)], [.int (l3 + (1 : Int32)), .ref 100, .ref 0], i_S X M)) rfl ?_
  obtain ⟨g155, h⟩ := i_gE h
  refine i_riald (n := X.1) (cf' := (973, [some (.ref 100), some (.ref 0), some (.ref 50), some (.int l3)], [.int (X.2 (Int32.toNatClampNeg (l3 + (1 : Int32)))), .ref 0], i_S X M)) rfl rfl (by decide) g155 rfl ?_
  refine i_rs 4 (cf' := (977, [some (.ref 100), some (.ref 0), some (.ref 50), some (.int l3)], [.int (l3 + (2 : Int32)), .ref 100, .int (X.2 (Int32.toNatClampNeg (l3 + (1 : Int32)))), .ref 0], i_S X M)) rfl ?_
  obtain ⟨g156, h⟩ := i_gE h
  refine i_riald (n := X.1) (cf' := (978, [some (.ref 100), some (.ref 0), some (.ref 50), some (.int l3)], [.int (X.2 (Int32.toNatClampNeg (l3 + (2 : Int32)))), .int (X.2 (Int32.toNatClampNeg (l3 + (1 : Int32)))), .ref 0], i_S X M)) rfl rfl (by decide) g156 rfl ?_
  obtain ⟨q157, hq157, h⟩ := i_bdE h
  refine i_rcall (k := 130) (as := [.ref 0, .int (X.2 (Int32.toNatClampNeg (l3 + (1 : Int32)))), .int (X.2 (Int32.toNatClampNeg (l3 + (2 : Int32))))]) (cf1 := (981, [some (.ref 100), some (.ref 0), some (.ref 50), some (.int l3)], [], i_S X M)) (cf' := (981, [some (.ref 100), some (.ref 0), some (.ref 50), some (.int l3)], [.int q157.1], i_S X q157.2)) rfl (ok_b_dug (by omega) hq157) rfl ?_
  refine i_rs 5 (cf' := (986, [some (.ref 100), some (.ref 0), some (.ref 50), some (.int l3)], [.int (l3 + (1 : Int32)), .ref 100, .ref 50, .int q157.1], i_S X q157.2)) rfl ?_
  refine i_riald (n := X.1) (cf' := (987, [some (.ref 100), some (.ref 0), some (.ref 50), some (.int l3)], [.int (X.2 (Int32.toNatClampNeg (l3 + (1 : Int32)))), .ref 50, .int q157.1], i_S X q157.2)) rfl rfl (by decide) g155 rfl ?_
  refine i_rs 4 (cf' := (991, [some (.ref 100), some (.ref 0), some (.ref 50), some (.int l3)], [.int (l3 + (2 : Int32)), .ref 100, .int (X.2 (Int32.toNatClampNeg (l3 + (1 : Int32)))), .ref 50, .int q157.1], i_S X q157.2)) rfl ?_
  refine i_riald (n := X.1) (cf' := (992, [some (.ref 100), some (.ref 0), some (.ref 50), some (.int l3)], [.int (X.2 (Int32.toNatClampNeg (l3 + (2 : Int32)))), .int (X.2 (Int32.toNatClampNeg (l3 + (1 : Int32)))), .ref 50, .int q157.1], i_S X q157.2)) rfl rfl (by decide) g156 rfl ?_
  obtain ⟨q158, hq158, h⟩ := i_bdE h
  refine i_rcall (k := 242) (as := [.ref 50, .int (X.2 (Int32.toNatClampNeg (l3 + (1 : Int32)))), .int (X.2 (Int32.toNatClampNeg (l3 + (2 : Int32))))]) (cf1 := (995, [some (.ref 100), some (.ref 0), some (.ref 50), some (.int l3)], [.int q157.1], i_S X q157.2)) (cf' := (995, [some (.ref 100), some (.ref 0), some (.ref 50), some (.int l3)], [.int q158.1, .int q157.1], i_S X q158.2)) rfl (ok_r_dug (by omega) hq158) rfl ?_
  by_cases c159 : q157.1 = q158.1
  · replace h := (if_pos c159).symm.trans h
    refine i_rbT (c := q157.1 = q158.1) (t := 1466) (n := 998) rfl c159 ?_
    refine i_rs 2 (cf' := (18, [some (.ref 100), some (.ref 0), some (.ref 50), some (.int (l3 + (6 : Int32)))], [], i_S X q158.2)) rfl ?_
    refine i_fg (lv' := [some (.ref 100), some (.ref 0), some (.ref 50), some (.int (l3 + (6 : Int32)))]) (And.intro rfl (And.intro rfl (And.intro rfl (And.intro rfl True.intro)))) ?_
    exact hself (l3 + (6 : Int32)) q158.2 _ h
  · replace h := (if_neg c159).symm.trans h
    refine i_rbF (c := q157.1 = q158.1) (t := 1466) (n := 998) rfl c159 ?_
    refine i_rs 1 (cf' := (999, [some (.ref 100), some (.ref 0), some (.ref 50), some (.int l3)], [.int (0 : Int32)], i_S X q158.2)) rfl ?_
    obtain rfl := Option.some.inj h
    exact i_rretZ rfl (Or.inl rfl) rfl
def w_law_B934 (X : Nat × (Nat → Int32)) (self : Int32 → I_M → Option (Int32 × I_M)) (l3 : Int32) (M : I_M) : Option (Int32 × I_M) :=
  i_g (l3 + (1 : Int32)) X.1 (i_g (l3 + (2 : Int32)) X.1 (Option.bind (b_years (X.2 (Int32.toNatClampNeg (l3 + (1 : Int32)))) (X.2 (Int32.toNatClampNeg (l3 + (2 : Int32)))) M) (fun q104 => Option.bind (r_years (X.2 (Int32.toNatClampNeg (l3 + (1 : Int32)))) (X.2 (Int32.toNatClampNeg (l3 + (2 : Int32)))) q104.2) (fun q105 => (if q104.1 = q105.1 then
      self (l3 + (6 : Int32)) q105.2
    else
      some ((0 : Int32), q105.2))))))
set_option maxHeartbeats 20000000 in
set_option maxRecDepth 100000 in
theorem ok_w_law_B934 {X : Nat × (Nat → Int32)} {d : Nat} {self : Int32 → I_M → Option (Int32 × I_M)} {l3 : Int32} {M : I_M} {r : (Int32 × I_M)} (hself : ∀ (m3 : Int32) (M : I_M) (r : (Int32 × I_M)), self m3 M = some r → I_RnE (I_Ex d) i_c266 (18, [some (.ref 100), some (.ref 0), some (.ref 50), some (.int m3)], [], i_S X M) (some (.int r.1)) (i_S X r.2)) (hd : 81 ≤ d + 1) (h : w_law_B934 X self l3 M = some r) : I_RnE (I_Ex d) i_c266 (934, [some (.ref 100), some (.ref 0), some (.ref 50), some (.int l3)], [], i_S X M) (some (.int r.1)) (i_S X r.2) := by
  unfold w_law_B934 at h
  refine i_rs 5 (cf' := (939, [some (.ref 100), some (.ref 0), some (.ref 50), some (.int l3)], [.int (l3 + (1 : Int32)), .ref 100, .ref 0], i_S X M)) rfl ?_
  obtain ⟨g102, h⟩ := i_gE h
  refine i_riald (n := X.1) (cf' := (940, [some (.ref 100), some (.ref 0), some (.ref 50), some (.int l3)], [.int (X.2 (Int32.toNatClampNeg (l3 + (1 : Int32)))), .ref 0], i_S X M)) rfl rfl (by decide) g102 rfl ?_
  refine i_rs 4 (cf' := (944, [some (.ref 100), some (.ref 0), some (.ref 50), some (.int l3)], [.int (l3 + (2 : Int32)), .ref 100, .int (X.2 (Int32.toNatClampNeg (l3 + (1 : Int32)))), .ref 0], i_S X M)) rfl ?_
  obtain ⟨g103, h⟩ := i_gE h
  refine i_riald (n := X.1) (cf' := (945, [some (.ref 100), some (.ref 0), some (.ref 50), some (.int l3)], [.int (X.2 (Int32.toNatClampNeg (l3 + (2 : Int32)))), .int (X.2 (Int32.toNatClampNeg (l3 + (1 : Int32)))), .ref 0], i_S X M)) rfl rfl (by decide) g103 rfl ?_
  obtain ⟨q104, hq104, h⟩ := i_bdE h
  refine i_rcall (k := 124) (as := [.ref 0, .int (X.2 (Int32.toNatClampNeg (l3 + (1 : Int32)))), .int (X.2 (Int32.toNatClampNeg (l3 + (2 : Int32))))]) (cf1 := (948, [some (.ref 100), some (.ref 0), some (.ref 50), some (.int l3)], [], i_S X M)) (cf' := (948, [some (.ref 100), some (.ref 0), some (.ref 50), some (.int l3)], [.int q104.1], i_S X q104.2)) rfl (ok_b_years (by omega) hq104) rfl ?_
  refine i_rs 5 (cf' := (953, [some (.ref 100), some (.ref 0), some (.ref 50), some (.int l3)], [.int (l3 + (1 : Int32)), .ref 100, .ref 50, .int q104.1], i_S X q104.2)) rfl ?_
  refine i_riald (n := X.1) (cf' := (954, [some (.ref 100), some (.ref 0), some (.ref 50), some (.int l3)], [.int (X.2 (Int32.toNatClampNeg (l3 + (1 : Int32)))), .ref 50, .int q104.1], i_S X q104.2)) rfl rfl (by decide) g102 rfl ?_
  refine i_rs 4 (cf' := (958, [some (.ref 100), some (.ref 0), some (.ref 50), some (.int l3)], [.int (l3 + (2 : Int32)), .ref 100, .int (X.2 (Int32.toNatClampNeg (l3 + (1 : Int32)))), .ref 50, .int q104.1], i_S X q104.2)) rfl ?_
  refine i_riald (n := X.1) (cf' := (959, [some (.ref 100), some (.ref 0), some (.ref 50), some (.int l3)], [.int (X.2 (Int32.toNatClampNeg (l3 + (2 : Int32)))), .int (X.2 (Int32.toNatClampNeg (l3 + (1 : Int32)))), .ref 50, .int q104.1], i_S X q104.2)) rfl rfl (by decide) g103 rfl ?_
  obtain ⟨q105, hq105, h⟩ := i_bdE h
  refine i_rcall (k := 239) (as := [.ref 50, .int (X.2 (Int32.toNatClampNeg (l3 + (1 : Int32)))), .int (X.2 (Int32.toNatClampNeg (l3 + (2 : Int32))))]) (cf1 := (962, [some (.ref 100), some (.ref 0), some (.ref 50), some (.int l3)], [.int q104.1], i_S X q104.2)) (cf' := (962, [some (.ref 100), some (.ref 0), some (.ref 50), some (.int l3)], [.int q105.1, .int q104.1], i_S X q105.2)) rfl (ok_r_years (by omega) hq105) rfl ?_
  by_cases c106 : q104.1 = q105.1
  · replace h := (if_pos c106).symm.trans h
    refine i_rbT (c := q104.1 = q105.1) (t := 1466) (n := 965) rfl c106 ?_
    refine i_rs 2 (cf' := (18, [some (.ref 100), some (.ref 0), some (.ref 50), some (.int (l3 + (6 : Int32)))], [], i_S X q105.2)) rfl ?_
    refine i_fg (lv' := [some (.ref 100), some (.ref 0), some (.ref 50), some (.int (l3 + (6 : Int32)))]) (And.intro rfl (And.intro rfl (And.intro rfl (And.intro rfl True.intro)))) ?_
    exact hself (l3 + (6 : Int32)) q105.2 _ h
  · replace h := (if_neg c106).symm.trans h
    refine i_rbF (c := q104.1 = q105.1) (t := 1466) (n := 965) rfl c106 ?_
    refine i_rs 1 (cf' := (966, [some (.ref 100), some (.ref 0), some (.ref 50), some (.int l3)], [.int (0 : Int32)], i_S X q105.2)) rfl ?_
    obtain rfl := Option.some.inj h
    exact i_rretZ rfl (Or.inl rfl) rfl
def w_law_B901 (X : Nat × (Nat → Int32)) (self : Int32 → I_M → Option (Int32 × I_M)) (l3 : Int32) (M : I_M) : Option (Int32 × I_M) :=
  i_g (l3 + (1 : Int32)) X.1 (i_g (l3 + (2 : Int32)) X.1 (Option.bind (b_whose (X.2 (Int32.toNatClampNeg (l3 + (1 : Int32)))) (X.2 (Int32.toNatClampNeg (l3 + (2 : Int32)))) M) (fun q55 => Option.bind (r_whose (X.2 (Int32.toNatClampNeg (l3 + (1 : Int32)))) (X.2 (Int32.toNatClampNeg (l3 + (2 : Int32)))) q55.2) (fun q56 => (if q55.1 = q56.1 then
      self (l3 + (6 : Int32)) q56.2
    else
      some ((0 : Int32), q56.2))))))
set_option maxHeartbeats 20000000 in
set_option maxRecDepth 100000 in
theorem ok_w_law_B901 {X : Nat × (Nat → Int32)} {d : Nat} {self : Int32 → I_M → Option (Int32 × I_M)} {l3 : Int32} {M : I_M} {r : (Int32 × I_M)} (hself : ∀ (m3 : Int32) (M : I_M) (r : (Int32 × I_M)), self m3 M = some r → I_RnE (I_Ex d) i_c266 (18, [some (.ref 100), some (.ref 0), some (.ref 50), some (.int m3)], [], i_S X M) (some (.int r.1)) (i_S X r.2)) (hd : 81 ≤ d + 1) (h : w_law_B901 X self l3 M = some r) : I_RnE (I_Ex d) i_c266 (901, [some (.ref 100), some (.ref 0), some (.ref 50), some (.int l3)], [], i_S X M) (some (.int r.1)) (i_S X r.2) := by
  unfold w_law_B901 at h
  refine i_rs 5 (cf' := (906, [some (.ref 100), some (.ref 0), some (.ref 50), some (.int l3)], [.int (l3 + (1 : Int32)), .ref 100, .ref 0], i_S X M)) rfl ?_
  obtain ⟨g53, h⟩ := i_gE h
  refine i_riald (n := X.1) (cf' := (907, [some (.ref 100), some (.ref 0), some (.ref 50), some (.int l3)], [.int (X.2 (Int32.toNatClampNeg (l3 + (1 : Int32)))), .ref 0], i_S X M)) rfl rfl (by decide) g53 rfl ?_
  refine i_rs 4 (cf' := (911, [some (.ref 100), some (.ref 0), some (.ref 50), some (.int l3)], [.int (l3 + (2 : Int32)), .ref 100, .int (X.2 (Int32.toNatClampNeg (l3 + (1 : Int32)))), .ref 0], i_S X M)) rfl ?_
  obtain ⟨g54, h⟩ := i_gE h
  refine i_riald (n := X.1) (cf' := (912, [some (.ref 100), some (.ref 0), some (.ref 50), some (.int l3)], [.int (X.2 (Int32.toNatClampNeg (l3 + (2 : Int32)))), .int (X.2 (Int32.toNatClampNeg (l3 + (1 : Int32)))), .ref 0], i_S X M)) rfl rfl (by decide) g54 rfl ?_
  obtain ⟨q55, hq55, h⟩ := i_bdE h
  refine i_rcall (k := 121) (as := [.ref 0, .int (X.2 (Int32.toNatClampNeg (l3 + (1 : Int32)))), .int (X.2 (Int32.toNatClampNeg (l3 + (2 : Int32))))]) (cf1 := (915, [some (.ref 100), some (.ref 0), some (.ref 50), some (.int l3)], [], i_S X M)) (cf' := (915, [some (.ref 100), some (.ref 0), some (.ref 50), some (.int l3)], [.int q55.1], i_S X q55.2)) rfl (ok_b_whose (by omega) hq55) rfl ?_
  refine i_rs 5 (cf' := (920, [some (.ref 100), some (.ref 0), some (.ref 50), some (.int l3)], [.int (l3 + (1 : Int32)), .ref 100, .ref 50, .int q55.1], i_S X q55.2)) rfl ?_
  refine i_riald (n := X.1) (cf' := (921, [some (.ref 100), some (.ref 0), some (.ref 50), some (.int l3)], [.int (X.2 (Int32.toNatClampNeg (l3 + (1 : Int32)))), .ref 50, .int q55.1], i_S X q55.2)) rfl rfl (by decide) g53 rfl ?_
  refine i_rs 4 (cf' := (925, [some (.ref 100), some (.ref 0), some (.ref 50), some (.int l3)], [.int (l3 + (2 : Int32)), .ref 100, .int (X.2 (Int32.toNatClampNeg (l3 + (1 : Int32)))), .ref 50, .int q55.1], i_S X q55.2)) rfl ?_
  refine i_riald (n := X.1) (cf' := (926, [some (.ref 100), some (.ref 0), some (.ref 50), some (.int l3)], [.int (X.2 (Int32.toNatClampNeg (l3 + (2 : Int32)))), .int (X.2 (Int32.toNatClampNeg (l3 + (1 : Int32)))), .ref 50, .int q55.1], i_S X q55.2)) rfl rfl (by decide) g54 rfl ?_
  obtain ⟨q56, hq56, h⟩ := i_bdE h
  refine i_rcall (k := 237) (as := [.ref 50, .int (X.2 (Int32.toNatClampNeg (l3 + (1 : Int32)))), .int (X.2 (Int32.toNatClampNeg (l3 + (2 : Int32))))]) (cf1 := (929, [some (.ref 100), some (.ref 0), some (.ref 50), some (.int l3)], [.int q55.1], i_S X q55.2)) (cf' := (929, [some (.ref 100), some (.ref 0), some (.ref 50), some (.int l3)], [.int q56.1, .int q55.1], i_S X q56.2)) rfl (ok_r_whose (by omega) hq56) rfl ?_
  by_cases c57 : q55.1 = q56.1
  · replace h := (if_pos c57).symm.trans h
    refine i_rbT (c := q55.1 = q56.1) (t := 1466) (n := 932) rfl c57 ?_
    refine i_rs 2 (cf' := (18, [some (.ref 100), some (.ref 0), some (.ref 50), some (.int (l3 + (6 : Int32)))], [], i_S X q56.2)) rfl ?_
    refine i_fg (lv' := [some (.ref 100), some (.ref 0), some (.ref 50), some (.int (l3 + (6 : Int32)))]) (And.intro rfl (And.intro rfl (And.intro rfl (And.intro rfl True.intro)))) ?_
    exact hself (l3 + (6 : Int32)) q56.2 _ h
  · replace h := (if_neg c57).symm.trans h
    refine i_rbF (c := q55.1 = q56.1) (t := 1466) (n := 932) rfl c57 ?_
    refine i_rs 1 (cf' := (933, [some (.ref 100), some (.ref 0), some (.ref 50), some (.int l3)], [.int (0 : Int32)], i_S X q56.2)) rfl ?_
    obtain rfl := Option.some.inj h
    exact i_rretZ rfl (Or.inl rfl) rfl
def w_law_B868 (X : Nat × (Nat → Int32)) (self : Int32 → I_M → Option (Int32 × I_M)) (l3 : Int32) (M : I_M) : Option (Int32 × I_M) :=
  i_g (l3 + (1 : Int32)) X.1 (i_g (l3 + (2 : Int32)) X.1 (Option.bind (b_tune (X.2 (Int32.toNatClampNeg (l3 + (1 : Int32)))) (X.2 (Int32.toNatClampNeg (l3 + (2 : Int32)))) M) (fun q202 => Option.bind (r_tune (X.2 (Int32.toNatClampNeg (l3 + (1 : Int32)))) (X.2 (Int32.toNatClampNeg (l3 + (2 : Int32)))) q202.2) (fun q203 => (if q202.1 = q203.1 then
      self (l3 + (6 : Int32)) q203.2
    else
      some ((0 : Int32), q203.2))))))
set_option maxHeartbeats 20000000 in
set_option maxRecDepth 100000 in
theorem ok_w_law_B868 {X : Nat × (Nat → Int32)} {d : Nat} {self : Int32 → I_M → Option (Int32 × I_M)} {l3 : Int32} {M : I_M} {r : (Int32 × I_M)} (hself : ∀ (m3 : Int32) (M : I_M) (r : (Int32 × I_M)), self m3 M = some r → I_RnE (I_Ex d) i_c266 (18, [some (.ref 100), some (.ref 0), some (.ref 50), some (.int m3)], [], i_S X M) (some (.int r.1)) (i_S X r.2)) (hd : 81 ≤ d + 1) (h : w_law_B868 X self l3 M = some r) : I_RnE (I_Ex d) i_c266 (868, [some (.ref 100), some (.ref 0), some (.ref 50), some (.int l3)], [], i_S X M) (some (.int r.1)) (i_S X r.2) := by
  unfold w_law_B868 at h
  refine i_rs 5 (cf' := (873, [some (.ref 100), some (.ref 0), some (.ref 50), some (.int l3)], [.int (l3 + (1 : Int32)), .ref 100, .ref 0], i_S X M)) rfl ?_
  obtain ⟨g200, h⟩ := i_gE h
  refine i_riald (n := X.1) (cf' := (874, [some (.ref 100), some (.ref 0), some (.ref 50), some (.int l3)], [.int (X.2 (Int32.toNatClampNeg (l3 + (1 : Int32)))), .ref 0], i_S X M)) rfl rfl (by decide) g200 rfl ?_
  refine i_rs 4 (cf' := (878, [some (.ref 100), some (.ref 0), some (.ref 50), some (.int l3)], [.int (l3 + (2 : Int32)), .ref 100, .int (X.2 (Int32.toNatClampNeg (l3 + (1 : Int32)))), .ref 0], i_S X M)) rfl ?_
  obtain ⟨g201, h⟩ := i_gE h
  refine i_riald (n := X.1) (cf' := (879, [some (.ref 100), some (.ref 0), some (.ref 50), some (.int l3)], [.int (X.2 (Int32.toNatClampNeg (l3 + (2 : Int32)))), .int (X.2 (Int32.toNatClampNeg (l3 + (1 : Int32)))), .ref 0], i_S X M)) rfl rfl (by decide) g201 rfl ?_
  obtain ⟨q202, hq202, h⟩ := i_bdE h
  refine i_rcall (k := 120) (as := [.ref 0, .int (X.2 (Int32.toNatClampNeg (l3 + (1 : Int32)))), .int (X.2 (Int32.toNatClampNeg (l3 + (2 : Int32))))]) (cf1 := (882, [some (.ref 100), some (.ref 0), some (.ref 50), some (.int l3)], [], i_S X M)) (cf' := (882, [some (.ref 100), some (.ref 0), some (.ref 50), some (.int l3)], [.int q202.1], i_S X q202.2)) rfl (ok_b_tune (by omega) hq202) rfl ?_
  refine i_rs 5 (cf' := (887, [some (.ref 100), some (.ref 0), some (.ref 50), some (.int l3)], [.int (l3 + (1 : Int32)), .ref 100, .ref 50, .int q202.1], i_S X q202.2)) rfl ?_
  refine i_riald (n := X.1) (cf' := (888, [some (.ref 100), some (.ref 0), some (.ref 50), some (.int l3)], [.int (X.2 (Int32.toNatClampNeg (l3 + (1 : Int32)))), .ref 50, .int q202.1], i_S X q202.2)) rfl rfl (by decide) g200 rfl ?_
  refine i_rs 4 (cf' := (892, [some (.ref 100), some (.ref 0), some (.ref 50), some (.int l3)], [.int (l3 + (2 : Int32)), .ref 100, .int (X.2 (Int32.toNatClampNeg (l3 + (1 : Int32)))), .ref 50, .int q202.1], i_S X q202.2)) rfl ?_
  refine i_riald (n := X.1) (cf' := (893, [some (.ref 100), some (.ref 0), some (.ref 50), some (.int l3)], [.int (X.2 (Int32.toNatClampNeg (l3 + (2 : Int32)))), .int (X.2 (Int32.toNatClampNeg (l3 + (1 : Int32)))), .ref 50, .int q202.1], i_S X q202.2)) rfl rfl (by decide) g201 rfl ?_
  obtain ⟨q203, hq203, h⟩ := i_bdE h
  refine i_rcall (k := 236) (as := [.ref 50, .int (X.2 (Int32.toNatClampNeg (l3 + (1 : Int32)))), .int (X.2 (Int32.toNatClampNeg (l3 + (2 : Int32))))]) (cf1 := (896, [some (.ref 100), some (.ref 0), some (.ref 50), some (.int l3)], [.int q202.1], i_S X q202.2)) (cf' := (896, [some (.ref 100), some (.ref 0), some (.ref 50), some (.int l3)], [.int q203.1, .int q202.1], i_S X q203.2)) rfl (ok_r_tune (by omega) hq203) rfl ?_
  by_cases c204 : q202.1 = q203.1
  · replace h := (if_pos c204).symm.trans h
    refine i_rbT (c := q202.1 = q203.1) (t := 1466) (n := 899) rfl c204 ?_
    refine i_rs 2 (cf' := (18, [some (.ref 100), some (.ref 0), some (.ref 50), some (.int (l3 + (6 : Int32)))], [], i_S X q203.2)) rfl ?_
    refine i_fg (lv' := [some (.ref 100), some (.ref 0), some (.ref 50), some (.int (l3 + (6 : Int32)))]) (And.intro rfl (And.intro rfl (And.intro rfl (And.intro rfl True.intro)))) ?_
    exact hself (l3 + (6 : Int32)) q203.2 _ h
  · replace h := (if_neg c204).symm.trans h
    refine i_rbF (c := q202.1 = q203.1) (t := 1466) (n := 899) rfl c204 ?_
    refine i_rs 1 (cf' := (900, [some (.ref 100), some (.ref 0), some (.ref 50), some (.int l3)], [.int (0 : Int32)], i_S X q203.2)) rfl ?_
    obtain rfl := Option.some.inj h
    exact i_rretZ rfl (Or.inl rfl) rfl
def w_law_B855 (X : Nat × (Nat → Int32)) (self : Int32 → I_M → Option (Int32 × I_M)) (l3 : Int32) (M : I_M) : Option (Int32 × I_M) :=
  Option.bind (b_source M) (fun q185 => Option.bind (r_source q185.2) (fun q186 => (if q185.1 = q186.1 then
      self (l3 + (6 : Int32)) q186.2
    else
      some ((0 : Int32), q186.2))))
set_option maxHeartbeats 20000000 in
set_option maxRecDepth 100000 in
theorem ok_w_law_B855 {X : Nat × (Nat → Int32)} {d : Nat} {self : Int32 → I_M → Option (Int32 × I_M)} {l3 : Int32} {M : I_M} {r : (Int32 × I_M)} (hself : ∀ (m3 : Int32) (M : I_M) (r : (Int32 × I_M)), self m3 M = some r → I_RnE (I_Ex d) i_c266 (18, [some (.ref 100), some (.ref 0), some (.ref 50), some (.int m3)], [], i_S X M) (some (.int r.1)) (i_S X r.2)) (hd : 81 ≤ d + 1) (h : w_law_B855 X self l3 M = some r) : I_RnE (I_Ex d) i_c266 (855, [some (.ref 100), some (.ref 0), some (.ref 50), some (.int l3)], [], i_S X M) (some (.int r.1)) (i_S X r.2) := by
  unfold w_law_B855 at h
  refine i_rs 1 (cf' := (856, [some (.ref 100), some (.ref 0), some (.ref 50), some (.int l3)], [.ref 0], i_S X M)) rfl ?_
  obtain ⟨q185, hq185, h⟩ := i_bdE h
  refine i_rcall (k := 118) (as := [.ref 0]) (cf1 := (859, [some (.ref 100), some (.ref 0), some (.ref 50), some (.int l3)], [], i_S X M)) (cf' := (859, [some (.ref 100), some (.ref 0), some (.ref 50), some (.int l3)], [.int q185.1], i_S X q185.2)) rfl (ok_b_source (by omega) hq185) rfl ?_
  refine i_rs 1 (cf' := (860, [some (.ref 100), some (.ref 0), some (.ref 50), some (.int l3)], [.ref 50, .int q185.1], i_S X q185.2)) rfl ?_
  obtain ⟨q186, hq186, h⟩ := i_bdE h
  refine i_rcall (k := 235) (as := [.ref 50]) (cf1 := (863, [some (.ref 100), some (.ref 0), some (.ref 50), some (.int l3)], [.int q185.1], i_S X q185.2)) (cf' := (863, [some (.ref 100), some (.ref 0), some (.ref 50), some (.int l3)], [.int q186.1, .int q185.1], i_S X q186.2)) rfl (ok_r_source (by omega) hq186) rfl ?_
  by_cases c187 : q185.1 = q186.1
  · replace h := (if_pos c187).symm.trans h
    refine i_rbT (c := q185.1 = q186.1) (t := 1466) (n := 866) rfl c187 ?_
    refine i_rs 2 (cf' := (18, [some (.ref 100), some (.ref 0), some (.ref 50), some (.int (l3 + (6 : Int32)))], [], i_S X q186.2)) rfl ?_
    refine i_fg (lv' := [some (.ref 100), some (.ref 0), some (.ref 50), some (.int (l3 + (6 : Int32)))]) (And.intro rfl (And.intro rfl (And.intro rfl (And.intro rfl True.intro)))) ?_
    exact hself (l3 + (6 : Int32)) q186.2 _ h
  · replace h := (if_neg c187).symm.trans h
    refine i_rbF (c := q185.1 = q186.1) (t := 1466) (n := 866) rfl c187 ?_
    refine i_rs 1 (cf' := (867, [some (.ref 100), some (.ref 0), some (.ref 50), some (.int l3)], [.int (0 : Int32)], i_S X q186.2)) rfl ?_
    obtain rfl := Option.some.inj h
    exact i_rretZ rfl (Or.inl rfl) rfl
def w_law_B822 (X : Nat × (Nat → Int32)) (self : Int32 → I_M → Option (Int32 × I_M)) (l3 : Int32) (M : I_M) : Option (Int32 × I_M) :=
  i_g (l3 + (1 : Int32)) X.1 (i_g (l3 + (2 : Int32)) X.1 (Option.bind (b_strikes (X.2 (Int32.toNatClampNeg (l3 + (1 : Int32)))) (X.2 (Int32.toNatClampNeg (l3 + (2 : Int32)))) M) (fun q138 => Option.bind (r_strikes (X.2 (Int32.toNatClampNeg (l3 + (1 : Int32)))) (X.2 (Int32.toNatClampNeg (l3 + (2 : Int32)))) q138.2) (fun q139 => (if q138.1 = q139.1 then
      self (l3 + (6 : Int32)) q139.2
    else
      some ((0 : Int32), q139.2))))))
set_option maxHeartbeats 20000000 in
set_option maxRecDepth 100000 in
theorem ok_w_law_B822 {X : Nat × (Nat → Int32)} {d : Nat} {self : Int32 → I_M → Option (Int32 × I_M)} {l3 : Int32} {M : I_M} {r : (Int32 × I_M)} (hself : ∀ (m3 : Int32) (M : I_M) (r : (Int32 × I_M)), self m3 M = some r → I_RnE (I_Ex d) i_c266 (18, [some (.ref 100), some (.ref 0), some (.ref 50), some (.int m3)], [], i_S X M) (some (.int r.1)) (i_S X r.2)) (hd : 81 ≤ d + 1) (h : w_law_B822 X self l3 M = some r) : I_RnE (I_Ex d) i_c266 (822, [some (.ref 100), some (.ref 0), some (.ref 50), some (.int l3)], [], i_S X M) (some (.int r.1)) (i_S X r.2) := by
  unfold w_law_B822 at h
  refine i_rs 5 (cf' := (827, [some (.ref 100), some (.ref 0), some (.ref 50), some (.int l3)], [.int (l3 + (1 : Int32)), .ref 100, .ref 0], i_S X M)) rfl ?_
  obtain ⟨g136, h⟩ := i_gE h
  refine i_riald (n := X.1) (cf' := (828, [some (.ref 100), some (.ref 0), some (.ref 50), some (.int l3)], [.int (X.2 (Int32.toNatClampNeg (l3 + (1 : Int32)))), .ref 0], i_S X M)) rfl rfl (by decide) g136 rfl ?_
  refine i_rs 4 (cf' := (832, [some (.ref 100), some (.ref 0), some (.ref 50), some (.int l3)], [.int (l3 + (2 : Int32)), .ref 100, .int (X.2 (Int32.toNatClampNeg (l3 + (1 : Int32)))), .ref 0], i_S X M)) rfl ?_
  obtain ⟨g137, h⟩ := i_gE h
  refine i_riald (n := X.1) (cf' := (833, [some (.ref 100), some (.ref 0), some (.ref 50), some (.int l3)], [.int (X.2 (Int32.toNatClampNeg (l3 + (2 : Int32)))), .int (X.2 (Int32.toNatClampNeg (l3 + (1 : Int32)))), .ref 0], i_S X M)) rfl rfl (by decide) g137 rfl ?_
  obtain ⟨q138, hq138, h⟩ := i_bdE h
  refine i_rcall (k := 114) (as := [.ref 0, .int (X.2 (Int32.toNatClampNeg (l3 + (1 : Int32)))), .int (X.2 (Int32.toNatClampNeg (l3 + (2 : Int32))))]) (cf1 := (836, [some (.ref 100), some (.ref 0), some (.ref 50), some (.int l3)], [], i_S X M)) (cf' := (836, [some (.ref 100), some (.ref 0), some (.ref 50), some (.int l3)], [.int q138.1], i_S X q138.2)) rfl (ok_b_strikes (by omega) hq138) rfl ?_
  refine i_rs 5 (cf' := (841, [some (.ref 100), some (.ref 0), some (.ref 50), some (.int l3)], [.int (l3 + (1 : Int32)), .ref 100, .ref 50, .int q138.1], i_S X q138.2)) rfl ?_
  refine i_riald (n := X.1) (cf' := (842, [some (.ref 100), some (.ref 0), some (.ref 50), some (.int l3)], [.int (X.2 (Int32.toNatClampNeg (l3 + (1 : Int32)))), .ref 50, .int q138.1], i_S X q138.2)) rfl rfl (by decide) g136 rfl ?_
  refine i_rs 4 (cf' := (846, [some (.ref 100), some (.ref 0), some (.ref 50), some (.int l3)], [.int (l3 + (2 : Int32)), .ref 100, .int (X.2 (Int32.toNatClampNeg (l3 + (1 : Int32)))), .ref 50, .int q138.1], i_S X q138.2)) rfl ?_
  refine i_riald (n := X.1) (cf' := (847, [some (.ref 100), some (.ref 0), some (.ref 50), some (.int l3)], [.int (X.2 (Int32.toNatClampNeg (l3 + (2 : Int32)))), .int (X.2 (Int32.toNatClampNeg (l3 + (1 : Int32)))), .ref 50, .int q138.1], i_S X q138.2)) rfl rfl (by decide) g137 rfl ?_
  obtain ⟨q139, hq139, h⟩ := i_bdE h
  refine i_rcall (k := 233) (as := [.ref 50, .int (X.2 (Int32.toNatClampNeg (l3 + (1 : Int32)))), .int (X.2 (Int32.toNatClampNeg (l3 + (2 : Int32))))]) (cf1 := (850, [some (.ref 100), some (.ref 0), some (.ref 50), some (.int l3)], [.int q138.1], i_S X q138.2)) (cf' := (850, [some (.ref 100), some (.ref 0), some (.ref 50), some (.int l3)], [.int q139.1, .int q138.1], i_S X q139.2)) rfl (ok_r_strikes (by omega) hq139) rfl ?_
  by_cases c140 : q138.1 = q139.1
  · replace h := (if_pos c140).symm.trans h
    refine i_rbT (c := q138.1 = q139.1) (t := 1466) (n := 853) rfl c140 ?_
    refine i_rs 2 (cf' := (18, [some (.ref 100), some (.ref 0), some (.ref 50), some (.int (l3 + (6 : Int32)))], [], i_S X q139.2)) rfl ?_
    refine i_fg (lv' := [some (.ref 100), some (.ref 0), some (.ref 50), some (.int (l3 + (6 : Int32)))]) (And.intro rfl (And.intro rfl (And.intro rfl (And.intro rfl True.intro)))) ?_
    exact hself (l3 + (6 : Int32)) q139.2 _ h
  · replace h := (if_neg c140).symm.trans h
    refine i_rbF (c := q138.1 = q139.1) (t := 1466) (n := 853) rfl c140 ?_
    refine i_rs 1 (cf' := (854, [some (.ref 100), some (.ref 0), some (.ref 50), some (.int l3)], [.int (0 : Int32)], i_S X q139.2)) rfl ?_
    obtain rfl := Option.some.inj h
    exact i_rretZ rfl (Or.inl rfl) rfl
def w_law_B799 (X : Nat × (Nat → Int32)) (self : Int32 → I_M → Option (Int32 × I_M)) (l3 : Int32) (M : I_M) : Option (Int32 × I_M) :=
  i_g (l3 + (1 : Int32)) X.1 (Option.bind (b_chain (X.2 (Int32.toNatClampNeg (l3 + (1 : Int32)))) M) (fun q90 => Option.bind (r_chain (X.2 (Int32.toNatClampNeg (l3 + (1 : Int32)))) q90.2) (fun q91 => (if q90.1 = q91.1 then
      self (l3 + (6 : Int32)) q91.2
    else
      some ((0 : Int32), q91.2)))))
set_option maxHeartbeats 20000000 in
set_option maxRecDepth 100000 in
theorem ok_w_law_B799 {X : Nat × (Nat → Int32)} {d : Nat} {self : Int32 → I_M → Option (Int32 × I_M)} {l3 : Int32} {M : I_M} {r : (Int32 × I_M)} (hself : ∀ (m3 : Int32) (M : I_M) (r : (Int32 × I_M)), self m3 M = some r → I_RnE (I_Ex d) i_c266 (18, [some (.ref 100), some (.ref 0), some (.ref 50), some (.int m3)], [], i_S X M) (some (.int r.1)) (i_S X r.2)) (hd : 81 ≤ d + 1) (h : w_law_B799 X self l3 M = some r) : I_RnE (I_Ex d) i_c266 (799, [some (.ref 100), some (.ref 0), some (.ref 50), some (.int l3)], [], i_S X M) (some (.int r.1)) (i_S X r.2) := by
  unfold w_law_B799 at h
  refine i_rs 5 (cf' := (804, [some (.ref 100), some (.ref 0), some (.ref 50), some (.int l3)], [.int (l3 + (1 : Int32)), .ref 100, .ref 0], i_S X M)) rfl ?_
  obtain ⟨g89, h⟩ := i_gE h
  refine i_riald (n := X.1) (cf' := (805, [some (.ref 100), some (.ref 0), some (.ref 50), some (.int l3)], [.int (X.2 (Int32.toNatClampNeg (l3 + (1 : Int32)))), .ref 0], i_S X M)) rfl rfl (by decide) g89 rfl ?_
  obtain ⟨q90, hq90, h⟩ := i_bdE h
  refine i_rcall (k := 108) (as := [.ref 0, .int (X.2 (Int32.toNatClampNeg (l3 + (1 : Int32))))]) (cf1 := (808, [some (.ref 100), some (.ref 0), some (.ref 50), some (.int l3)], [], i_S X M)) (cf' := (808, [some (.ref 100), some (.ref 0), some (.ref 50), some (.int l3)], [.int q90.1], i_S X q90.2)) rfl (ok_b_chain (by omega) hq90) rfl ?_
  refine i_rs 5 (cf' := (813, [some (.ref 100), some (.ref 0), some (.ref 50), some (.int l3)], [.int (l3 + (1 : Int32)), .ref 100, .ref 50, .int q90.1], i_S X q90.2)) rfl ?_
  refine i_riald (n := X.1) (cf' := (814, [some (.ref 100), some (.ref 0), some (.ref 50), some (.int l3)], [.int (X.2 (Int32.toNatClampNeg (l3 + (1 : Int32)))), .ref 50, .int q90.1], i_S X q90.2)) rfl rfl (by decide) g89 rfl ?_
  obtain ⟨q91, hq91, h⟩ := i_bdE h
  refine i_rcall (k := 229) (as := [.ref 50, .int (X.2 (Int32.toNatClampNeg (l3 + (1 : Int32))))]) (cf1 := (817, [some (.ref 100), some (.ref 0), some (.ref 50), some (.int l3)], [.int q90.1], i_S X q90.2)) (cf' := (817, [some (.ref 100), some (.ref 0), some (.ref 50), some (.int l3)], [.int q91.1, .int q90.1], i_S X q91.2)) rfl (ok_r_chain (by omega) hq91) rfl ?_
  by_cases c92 : q90.1 = q91.1
  · replace h := (if_pos c92).symm.trans h
    refine i_rbT (c := q90.1 = q91.1) (t := 1466) (n := 820) rfl c92 ?_
    refine i_rs 2 (cf' := (18, [some (.ref 100), some (.ref 0), some (.ref 50), some (.int (l3 + (6 : Int32)))], [], i_S X q91.2)) rfl ?_
    refine i_fg (lv' := [some (.ref 100), some (.ref 0), some (.ref 50), some (.int (l3 + (6 : Int32)))]) (And.intro rfl (And.intro rfl (And.intro rfl (And.intro rfl True.intro)))) ?_
    exact hself (l3 + (6 : Int32)) q91.2 _ h
  · replace h := (if_neg c92).symm.trans h
    refine i_rbF (c := q90.1 = q91.1) (t := 1466) (n := 820) rfl c92 ?_
    refine i_rs 1 (cf' := (821, [some (.ref 100), some (.ref 0), some (.ref 50), some (.int l3)], [.int (0 : Int32)], i_S X q91.2)) rfl ?_
    obtain rfl := Option.some.inj h
    exact i_rretZ rfl (Or.inl rfl) rfl
def w_law_B776 (X : Nat × (Nat → Int32)) (self : Int32 → I_M → Option (Int32 × I_M)) (l3 : Int32) (M : I_M) : Option (Int32 × I_M) :=
  i_g (l3 + (1 : Int32)) X.1 (Option.bind (b_shows (X.2 (Int32.toNatClampNeg (l3 + (1 : Int32)))) M) (fun q59 => Option.bind (r_shows (X.2 (Int32.toNatClampNeg (l3 + (1 : Int32)))) q59.2) (fun q60 => (if q59.1 = q60.1 then
      self (l3 + (6 : Int32)) q60.2
    else
      some ((0 : Int32), q60.2)))))
set_option maxHeartbeats 20000000 in
set_option maxRecDepth 100000 in
theorem ok_w_law_B776 {X : Nat × (Nat → Int32)} {d : Nat} {self : Int32 → I_M → Option (Int32 × I_M)} {l3 : Int32} {M : I_M} {r : (Int32 × I_M)} (hself : ∀ (m3 : Int32) (M : I_M) (r : (Int32 × I_M)), self m3 M = some r → I_RnE (I_Ex d) i_c266 (18, [some (.ref 100), some (.ref 0), some (.ref 50), some (.int m3)], [], i_S X M) (some (.int r.1)) (i_S X r.2)) (hd : 81 ≤ d + 1) (h : w_law_B776 X self l3 M = some r) : I_RnE (I_Ex d) i_c266 (776, [some (.ref 100), some (.ref 0), some (.ref 50), some (.int l3)], [], i_S X M) (some (.int r.1)) (i_S X r.2) := by
  unfold w_law_B776 at h
  refine i_rs 5 (cf' := (781, [some (.ref 100), some (.ref 0), some (.ref 50), some (.int l3)], [.int (l3 + (1 : Int32)), .ref 100, .ref 0], i_S X M)) rfl ?_
  obtain ⟨g58, h⟩ := i_gE h
  refine i_riald (n := X.1) (cf' := (782, [some (.ref 100), some (.ref 0), some (.ref 50), some (.int l3)], [.int (X.2 (Int32.toNatClampNeg (l3 + (1 : Int32)))), .ref 0], i_S X M)) rfl rfl (by decide) g58 rfl ?_
  obtain ⟨q59, hq59, h⟩ := i_bdE h
  refine i_rcall (k := 106) (as := [.ref 0, .int (X.2 (Int32.toNatClampNeg (l3 + (1 : Int32))))]) (cf1 := (785, [some (.ref 100), some (.ref 0), some (.ref 50), some (.int l3)], [], i_S X M)) (cf' := (785, [some (.ref 100), some (.ref 0), some (.ref 50), some (.int l3)], [.int q59.1], i_S X q59.2)) rfl (ok_b_shows (by omega) hq59) rfl ?_
  refine i_rs 5 (cf' := (790, [some (.ref 100), some (.ref 0), some (.ref 50), some (.int l3)], [.int (l3 + (1 : Int32)), .ref 100, .ref 50, .int q59.1], i_S X q59.2)) rfl ?_
  refine i_riald (n := X.1) (cf' := (791, [some (.ref 100), some (.ref 0), some (.ref 50), some (.int l3)], [.int (X.2 (Int32.toNatClampNeg (l3 + (1 : Int32)))), .ref 50, .int q59.1], i_S X q59.2)) rfl rfl (by decide) g58 rfl ?_
  obtain ⟨q60, hq60, h⟩ := i_bdE h
  refine i_rcall (k := 227) (as := [.ref 50, .int (X.2 (Int32.toNatClampNeg (l3 + (1 : Int32))))]) (cf1 := (794, [some (.ref 100), some (.ref 0), some (.ref 50), some (.int l3)], [.int q59.1], i_S X q59.2)) (cf' := (794, [some (.ref 100), some (.ref 0), some (.ref 50), some (.int l3)], [.int q60.1, .int q59.1], i_S X q60.2)) rfl (ok_r_shows (by omega) hq60) rfl ?_
  by_cases c61 : q59.1 = q60.1
  · replace h := (if_pos c61).symm.trans h
    refine i_rbT (c := q59.1 = q60.1) (t := 1466) (n := 797) rfl c61 ?_
    refine i_rs 2 (cf' := (18, [some (.ref 100), some (.ref 0), some (.ref 50), some (.int (l3 + (6 : Int32)))], [], i_S X q60.2)) rfl ?_
    refine i_fg (lv' := [some (.ref 100), some (.ref 0), some (.ref 50), some (.int (l3 + (6 : Int32)))]) (And.intro rfl (And.intro rfl (And.intro rfl (And.intro rfl True.intro)))) ?_
    exact hself (l3 + (6 : Int32)) q60.2 _ h
  · replace h := (if_neg c61).symm.trans h
    refine i_rbF (c := q59.1 = q60.1) (t := 1466) (n := 797) rfl c61 ?_
    refine i_rs 1 (cf' := (798, [some (.ref 100), some (.ref 0), some (.ref 50), some (.int l3)], [.int (0 : Int32)], i_S X q60.2)) rfl ?_
    obtain rfl := Option.some.inj h
    exact i_rretZ rfl (Or.inl rfl) rfl
def w_law_B753 (X : Nat × (Nat → Int32)) (self : Int32 → I_M → Option (Int32 × I_M)) (l3 : Int32) (M : I_M) : Option (Int32 × I_M) :=
  i_g (l3 + (1 : Int32)) X.1 (Option.bind (b_liars (X.2 (Int32.toNatClampNeg (l3 + (1 : Int32)))) M) (fun q221 => Option.bind (r_liars (X.2 (Int32.toNatClampNeg (l3 + (1 : Int32)))) q221.2) (fun q222 => (if q221.1 = q222.1 then
      self (l3 + (6 : Int32)) q222.2
    else
      some ((0 : Int32), q222.2)))))
set_option maxHeartbeats 20000000 in
set_option maxRecDepth 100000 in
theorem ok_w_law_B753 {X : Nat × (Nat → Int32)} {d : Nat} {self : Int32 → I_M → Option (Int32 × I_M)} {l3 : Int32} {M : I_M} {r : (Int32 × I_M)} (hself : ∀ (m3 : Int32) (M : I_M) (r : (Int32 × I_M)), self m3 M = some r → I_RnE (I_Ex d) i_c266 (18, [some (.ref 100), some (.ref 0), some (.ref 50), some (.int m3)], [], i_S X M) (some (.int r.1)) (i_S X r.2)) (hd : 81 ≤ d + 1) (h : w_law_B753 X self l3 M = some r) : I_RnE (I_Ex d) i_c266 (753, [some (.ref 100), some (.ref 0), some (.ref 50), some (.int l3)], [], i_S X M) (some (.int r.1)) (i_S X r.2) := by
  unfold w_law_B753 at h
  refine i_rs 5 (cf' := (758, [some (.ref 100), some (.ref 0), some (.ref 50), some (.int l3)], [.int (l3 + (1 : Int32)), .ref 100, .ref 0], i_S X M)) rfl ?_
  obtain ⟨g220, h⟩ := i_gE h
  refine i_riald (n := X.1) (cf' := (759, [some (.ref 100), some (.ref 0), some (.ref 50), some (.int l3)], [.int (X.2 (Int32.toNatClampNeg (l3 + (1 : Int32)))), .ref 0], i_S X M)) rfl rfl (by decide) g220 rfl ?_
  obtain ⟨q221, hq221, h⟩ := i_bdE h
  refine i_rcall (k := 102) (as := [.ref 0, .int (X.2 (Int32.toNatClampNeg (l3 + (1 : Int32))))]) (cf1 := (762, [some (.ref 100), some (.ref 0), some (.ref 50), some (.int l3)], [], i_S X M)) (cf' := (762, [some (.ref 100), some (.ref 0), some (.ref 50), some (.int l3)], [.int q221.1], i_S X q221.2)) rfl (ok_b_liars (by omega) hq221) rfl ?_
  refine i_rs 5 (cf' := (767, [some (.ref 100), some (.ref 0), some (.ref 50), some (.int l3)], [.int (l3 + (1 : Int32)), .ref 100, .ref 50, .int q221.1], i_S X q221.2)) rfl ?_
  refine i_riald (n := X.1) (cf' := (768, [some (.ref 100), some (.ref 0), some (.ref 50), some (.int l3)], [.int (X.2 (Int32.toNatClampNeg (l3 + (1 : Int32)))), .ref 50, .int q221.1], i_S X q221.2)) rfl rfl (by decide) g220 rfl ?_
  obtain ⟨q222, hq222, h⟩ := i_bdE h
  refine i_rcall (k := 226) (as := [.ref 50, .int (X.2 (Int32.toNatClampNeg (l3 + (1 : Int32))))]) (cf1 := (771, [some (.ref 100), some (.ref 0), some (.ref 50), some (.int l3)], [.int q221.1], i_S X q221.2)) (cf' := (771, [some (.ref 100), some (.ref 0), some (.ref 50), some (.int l3)], [.int q222.1, .int q221.1], i_S X q222.2)) rfl (ok_r_liars (by omega) hq222) rfl ?_
  by_cases c223 : q221.1 = q222.1
  · replace h := (if_pos c223).symm.trans h
    refine i_rbT (c := q221.1 = q222.1) (t := 1466) (n := 774) rfl c223 ?_
    refine i_rs 2 (cf' := (18, [some (.ref 100), some (.ref 0), some (.ref 50), some (.int (l3 + (6 : Int32)))], [], i_S X q222.2)) rfl ?_
    refine i_fg (lv' := [some (.ref 100), some (.ref 0), some (.ref 50), some (.int (l3 + (6 : Int32)))]) (And.intro rfl (And.intro rfl (And.intro rfl (And.intro rfl True.intro)))) ?_
    exact hself (l3 + (6 : Int32)) q222.2 _ h
  · replace h := (if_neg c223).symm.trans h
    refine i_rbF (c := q221.1 = q222.1) (t := 1466) (n := 774) rfl c223 ?_
    refine i_rs 1 (cf' := (775, [some (.ref 100), some (.ref 0), some (.ref 50), some (.int l3)], [.int (0 : Int32)], i_S X q222.2)) rfl ?_
    obtain rfl := Option.some.inj h
    exact i_rretZ rfl (Or.inl rfl) rfl
def w_law_B720 (X : Nat × (Nat → Int32)) (self : Int32 → I_M → Option (Int32 × I_M)) (l3 : Int32) (M : I_M) : Option (Int32 × I_M) :=
  i_g (l3 + (1 : Int32)) X.1 (i_g (l3 + (2 : Int32)) X.1 (Option.bind (b_told (X.2 (Int32.toNatClampNeg (l3 + (1 : Int32)))) (X.2 (Int32.toNatClampNeg (l3 + (2 : Int32)))) M) (fun q173 => Option.bind (r_told (X.2 (Int32.toNatClampNeg (l3 + (1 : Int32)))) (X.2 (Int32.toNatClampNeg (l3 + (2 : Int32)))) q173.2) (fun q174 => (if q173.1 = q174.1 then
      self (l3 + (6 : Int32)) q174.2
    else
      some ((0 : Int32), q174.2))))))
set_option maxHeartbeats 20000000 in
set_option maxRecDepth 100000 in
theorem ok_w_law_B720 {X : Nat × (Nat → Int32)} {d : Nat} {self : Int32 → I_M → Option (Int32 × I_M)} {l3 : Int32} {M : I_M} {r : (Int32 × I_M)} (hself : ∀ (m3 : Int32) (M : I_M) (r : (Int32 × I_M)), self m3 M = some r → I_RnE (I_Ex d) i_c266 (18, [some (.ref 100), some (.ref 0), some (.ref 50), some (.int m3)], [], i_S X M) (some (.int r.1)) (i_S X r.2)) (hd : 81 ≤ d + 1) (h : w_law_B720 X self l3 M = some r) : I_RnE (I_Ex d) i_c266 (720, [some (.ref 100), some (.ref 0), some (.ref 50), some (.int l3)], [], i_S X M) (some (.int r.1)) (i_S X r.2) := by
  unfold w_law_B720 at h
  refine i_rs 5 (cf' := (725, [some (.ref 100), some (.ref 0), some (.ref 50), some (.int l3)], [.int (l3 + (1 : Int32)), .ref 100, .ref 0], i_S X M)) rfl ?_
  obtain ⟨g171, h⟩ := i_gE h
  refine i_riald (n := X.1) (cf' := (726, [some (.ref 100), some (.ref 0), some (.ref 50), some (.int l3)], [.int (X.2 (Int32.toNatClampNeg (l3 + (1 : Int32)))), .ref 0], i_S X M)) rfl rfl (by decide) g171 rfl ?_
  refine i_rs 4 (cf' := (730, [some (.ref 100), some (.ref 0), some (.ref 50), some (.int l3)], [.int (l3 + (2 : Int32)), .ref 100, .int (X.2 (Int32.toNatClampNeg (l3 + (1 : Int32)))), .ref 0], i_S X M)) rfl ?_
  obtain ⟨g172, h⟩ := i_gE h
  refine i_riald (n := X.1) (cf' := (731, [some (.ref 100), some (.ref 0), some (.ref 50), some (.int l3)], [.int (X.2 (Int32.toNatClampNeg (l3 + (2 : Int32)))), .int (X.2 (Int32.toNatClampNeg (l3 + (1 : Int32)))), .ref 0], i_S X M)) rfl rfl (by decide) g172 rfl ?_
  obtain ⟨q173, hq173, h⟩ := i_bdE h
  refine i_rcall (k := 101) (as := [.ref 0, .int (X.2 (Int32.toNatClampNeg (l3 + (1 : Int32)))), .int (X.2 (Int32.toNatClampNeg (l3 + (2 : Int32))))]) (cf1 := (734, [some (.ref 100), some (.ref 0), some (.ref 50), some (.int l3)], [], i_S X M)) (cf' := (734, [some (.ref 100), some (.ref 0), some (.ref 50), some (.int l3)], [.int q173.1], i_S X q173.2)) rfl (ok_b_told (by omega) hq173) rfl ?_
  refine i_rs 5 (cf' := (739, [some (.ref 100), some (.ref 0), some (.ref 50), some (.int l3)], [.int (l3 + (1 : Int32)), .ref 100, .ref 50, .int q173.1], i_S X q173.2)) rfl ?_
  refine i_riald (n := X.1) (cf' := (740, [some (.ref 100), some (.ref 0), some (.ref 50), some (.int l3)], [.int (X.2 (Int32.toNatClampNeg (l3 + (1 : Int32)))), .ref 50, .int q173.1], i_S X q173.2)) rfl rfl (by decide) g171 rfl ?_
  refine i_rs 4 (cf' := (744, [some (.ref 100), some (.ref 0), some (.ref 50), some (.int l3)], [.int (l3 + (2 : Int32)), .ref 100, .int (X.2 (Int32.toNatClampNeg (l3 + (1 : Int32)))), .ref 50, .int q173.1], i_S X q173.2)) rfl ?_
  refine i_riald (n := X.1) (cf' := (745, [some (.ref 100), some (.ref 0), some (.ref 50), some (.int l3)], [.int (X.2 (Int32.toNatClampNeg (l3 + (2 : Int32)))), .int (X.2 (Int32.toNatClampNeg (l3 + (1 : Int32)))), .ref 50, .int q173.1], i_S X q173.2)) rfl rfl (by decide) g172 rfl ?_
  obtain ⟨q174, hq174, h⟩ := i_bdE h
  refine i_rcall (k := 225) (as := [.ref 50, .int (X.2 (Int32.toNatClampNeg (l3 + (1 : Int32)))), .int (X.2 (Int32.toNatClampNeg (l3 + (2 : Int32))))]) (cf1 := (748, [some (.ref 100), some (.ref 0), some (.ref 50), some (.int l3)], [.int q173.1], i_S X q173.2)) (cf' := (748, [some (.ref 100), some (.ref 0), some (.ref 50), some (.int l3)], [.int q174.1, .int q173.1], i_S X q174.2)) rfl (ok_r_told (by omega) hq174) rfl ?_
  by_cases c175 : q173.1 = q174.1
  · replace h := (if_pos c175).symm.trans h
    refine i_rbT (c := q173.1 = q174.1) (t := 1466) (n := 751) rfl c175 ?_
    refine i_rs 2 (cf' := (18, [some (.ref 100), some (.ref 0), some (.ref 50), some (.int (l3 + (6 : Int32)))], [], i_S X q174.2)) rfl ?_
    refine i_fg (lv' := [some (.ref 100), some (.ref 0), some (.ref 50), some (.int (l3 + (6 : Int32)))]) (And.intro rfl (And.intro rfl (And.intro rfl (And.intro rfl True.intro)))) ?_
    exact hself (l3 + (6 : Int32)) q174.2 _ h
  · replace h := (if_neg c175).symm.trans h
    refine i_rbF (c := q173.1 = q174.1) (t := 1466) (n := 751) rfl c175 ?_
    refine i_rs 1 (cf' := (752, [some (.ref 100), some (.ref 0), some (.ref 50), some (.int l3)], [.int (0 : Int32)], i_S X q174.2)) rfl ?_
    obtain rfl := Option.some.inj h
    exact i_rretZ rfl (Or.inl rfl) rfl
def w_law_B687 (X : Nat × (Nat → Int32)) (self : Int32 → I_M → Option (Int32 × I_M)) (l3 : Int32) (M : I_M) : Option (Int32 × I_M) :=
  i_g (l3 + (1 : Int32)) X.1 (i_g (l3 + (2 : Int32)) X.1 (Option.bind (b_next (X.2 (Int32.toNatClampNeg (l3 + (1 : Int32)))) (X.2 (Int32.toNatClampNeg (l3 + (2 : Int32)))) M) (fun q129 => Option.bind (r_next (X.2 (Int32.toNatClampNeg (l3 + (1 : Int32)))) (X.2 (Int32.toNatClampNeg (l3 + (2 : Int32)))) q129.2) (fun q130 => (if q129.1 = q130.1 then
      self (l3 + (6 : Int32)) q130.2
    else
      some ((0 : Int32), q130.2))))))
set_option maxHeartbeats 20000000 in
set_option maxRecDepth 100000 in
theorem ok_w_law_B687 {X : Nat × (Nat → Int32)} {d : Nat} {self : Int32 → I_M → Option (Int32 × I_M)} {l3 : Int32} {M : I_M} {r : (Int32 × I_M)} (hself : ∀ (m3 : Int32) (M : I_M) (r : (Int32 × I_M)), self m3 M = some r → I_RnE (I_Ex d) i_c266 (18, [some (.ref 100), some (.ref 0), some (.ref 50), some (.int m3)], [], i_S X M) (some (.int r.1)) (i_S X r.2)) (hd : 81 ≤ d + 1) (h : w_law_B687 X self l3 M = some r) : I_RnE (I_Ex d) i_c266 (687, [some (.ref 100), some (.ref 0), some (.ref 50), some (.int l3)], [], i_S X M) (some (.int r.1)) (i_S X r.2) := by
  unfold w_law_B687 at h
  refine i_rs 5 (cf' := (692, [some (.ref 100), some (.ref 0), some (.ref 50), some (.int l3)], [.int (l3 + (1 : Int32)), .ref 100, .ref 0], i_S X M)) rfl ?_
  obtain ⟨g127, h⟩ := i_gE h
  refine i_riald (n := X.1) (cf' := (693, [some (.ref 100), some (.ref 0), some (.ref 50), some (.int l3)], [.int (X.2 (Int32.toNatClampNeg (l3 + (1 : Int32)))), .ref 0], i_S X M)) rfl rfl (by decide) g127 rfl ?_
  refine i_rs 4 (cf' := (697, [some (.ref 100), some (.ref 0), some (.ref 50), some (.int l3)], [.int (l3 + (2 : Int32)), .ref 100, .int (X.2 (Int32.toNatClampNeg (l3 + (1 : Int32)))), .ref 0], i_S X M)) rfl ?_
  obtain ⟨g128, h⟩ := i_gE h
  refine i_riald (n := X.1) (cf' := (698, [some (.ref 100), some (.ref 0), some (.ref 50), some (.int l3)], [.int (X.2 (Int32.toNatClampNeg (l3 + (2 : Int32)))), .int (X.2 (Int32.toNatClampNeg (l3 + (1 : Int32)))), .ref 0], i_S X M)) rfl rfl (by decide) g128 rfl ?_
  obtain ⟨q129, hq129, h⟩ := i_bdE h
  refine i_rcall (k := 96) (as := [.ref 0, .int (X.2 (Int32.toNatClampNeg (l3 + (1 : Int32)))), .int (X.2 (Int32.toNatClampNeg (l3 + (2 : Int32))))]) (cf1 := (701, [some (.ref 100), some (.ref 0), some (.ref 50), some (.int l3)], [], i_S X M)) (cf' := (701, [some (.ref 100), some (.ref 0), some (.ref 50), some (.int l3)], [.int q129.1], i_S X q129.2)) rfl (ok_b_next (by omega) hq129) rfl ?_
  refine i_rs 5 (cf' := (706, [some (.ref 100), some (.ref 0), some (.ref 50), some (.int l3)], [.int (l3 + (1 : Int32)), .ref 100, .ref 50, .int q129.1], i_S X q129.2)) rfl ?_
  refine i_riald (n := X.1) (cf' := (707, [some (.ref 100), some (.ref 0), some (.ref 50), some (.int l3)], [.int (X.2 (Int32.toNatClampNeg (l3 + (1 : Int32)))), .ref 50, .int q129.1], i_S X q129.2)) rfl rfl (by decide) g127 rfl ?_
  refine i_rs 4 (cf' := (711, [some (.ref 100), some (.ref 0), some (.ref 50), some (.int l3)], [.int (l3 + (2 : Int32)), .ref 100, .int (X.2 (Int32.toNatClampNeg (l3 + (1 : Int32)))), .ref 50, .int q129.1], i_S X q129.2)) rfl ?_
  refine i_riald (n := X.1) (cf' := (712, [some (.ref 100), some (.ref 0), some (.ref 50), some (.int l3)], [.int (X.2 (Int32.toNatClampNeg (l3 + (2 : Int32)))), .int (X.2 (Int32.toNatClampNeg (l3 + (1 : Int32)))), .ref 50, .int q129.1], i_S X q129.2)) rfl rfl (by decide) g128 rfl ?_
  obtain ⟨q130, hq130, h⟩ := i_bdE h
  refine i_rcall (k := 223) (as := [.ref 50, .int (X.2 (Int32.toNatClampNeg (l3 + (1 : Int32)))), .int (X.2 (Int32.toNatClampNeg (l3 + (2 : Int32))))]) (cf1 := (715, [some (.ref 100), some (.ref 0), some (.ref 50), some (.int l3)], [.int q129.1], i_S X q129.2)) (cf' := (715, [some (.ref 100), some (.ref 0), some (.ref 50), some (.int l3)], [.int q130.1, .int q129.1], i_S X q130.2)) rfl (ok_r_next (by omega) hq130) rfl ?_
  by_cases c131 : q129.1 = q130.1
  · replace h := (if_pos c131).symm.trans h
    refine i_rbT (c := q129.1 = q130.1) (t := 1466) (n := 718) rfl c131 ?_
    refine i_rs 2 (cf' := (18, [some (.ref 100), some (.ref 0), some (.ref 50), some (.int (l3 + (6 : Int32)))], [], i_S X q130.2)) rfl ?_
    refine i_fg (lv' := [some (.ref 100), some (.ref 0), some (.ref 50), some (.int (l3 + (6 : Int32)))]) (And.intro rfl (And.intro rfl (And.intro rfl (And.intro rfl True.intro)))) ?_
    exact hself (l3 + (6 : Int32)) q130.2 _ h
  · replace h := (if_neg c131).symm.trans h
    refine i_rbF (c := q129.1 = q130.1) (t := 1466) (n := 718) rfl c131 ?_
    refine i_rs 1 (cf' := (719, [some (.ref 100), some (.ref 0), some (.ref 50), some (.int l3)], [.int (0 : Int32)], i_S X q130.2)) rfl ?_
    obtain rfl := Option.some.inj h
    exact i_rretZ rfl (Or.inl rfl) rfl
def w_law_B664 (X : Nat × (Nat → Int32)) (self : Int32 → I_M → Option (Int32 × I_M)) (l3 : Int32) (M : I_M) : Option (Int32 × I_M) :=
  i_g (l3 + (1 : Int32)) X.1 (Option.bind (b_dig (X.2 (Int32.toNatClampNeg (l3 + (1 : Int32)))) M) (fun q77 => Option.bind (r_dig (X.2 (Int32.toNatClampNeg (l3 + (1 : Int32)))) q77.2) (fun q78 => (if q77.1 = q78.1 then
      self (l3 + (6 : Int32)) q78.2
    else
      some ((0 : Int32), q78.2)))))
set_option maxHeartbeats 20000000 in
set_option maxRecDepth 100000 in
theorem ok_w_law_B664 {X : Nat × (Nat → Int32)} {d : Nat} {self : Int32 → I_M → Option (Int32 × I_M)} {l3 : Int32} {M : I_M} {r : (Int32 × I_M)} (hself : ∀ (m3 : Int32) (M : I_M) (r : (Int32 × I_M)), self m3 M = some r → I_RnE (I_Ex d) i_c266 (18, [some (.ref 100), some (.ref 0), some (.ref 50), some (.int m3)], [], i_S X M) (some (.int r.1)) (i_S X r.2)) (hd : 81 ≤ d + 1) (h : w_law_B664 X self l3 M = some r) : I_RnE (I_Ex d) i_c266 (664, [some (.ref 100), some (.ref 0), some (.ref 50), some (.int l3)], [], i_S X M) (some (.int r.1)) (i_S X r.2) := by
  unfold w_law_B664 at h
  refine i_rs 5 (cf' := (669, [some (.ref 100), some (.ref 0), some (.ref 50), some (.int l3)], [.int (l3 + (1 : Int32)), .ref 100, .ref 0], i_S X M)) rfl ?_
  obtain ⟨g76, h⟩ := i_gE h
  refine i_riald (n := X.1) (cf' := (670, [some (.ref 100), some (.ref 0), some (.ref 50), some (.int l3)], [.int (X.2 (Int32.toNatClampNeg (l3 + (1 : Int32)))), .ref 0], i_S X M)) rfl rfl (by decide) g76 rfl ?_
  obtain ⟨q77, hq77, h⟩ := i_bdE h
  refine i_rcall (k := 94) (as := [.ref 0, .int (X.2 (Int32.toNatClampNeg (l3 + (1 : Int32))))]) (cf1 := (673, [some (.ref 100), some (.ref 0), some (.ref 50), some (.int l3)], [], i_S X M)) (cf' := (673, [some (.ref 100), some (.ref 0), some (.ref 50), some (.int l3)], [.int q77.1], i_S X q77.2)) rfl (ok_b_dig (by omega) hq77) rfl ?_
  refine i_rs 5 (cf' := (678, [some (.ref 100), some (.ref 0), some (.ref 50), some (.int l3)], [.int (l3 + (1 : Int32)), .ref 100, .ref 50, .int q77.1], i_S X q77.2)) rfl ?_
  refine i_riald (n := X.1) (cf' := (679, [some (.ref 100), some (.ref 0), some (.ref 50), some (.int l3)], [.int (X.2 (Int32.toNatClampNeg (l3 + (1 : Int32)))), .ref 50, .int q77.1], i_S X q77.2)) rfl rfl (by decide) g76 rfl ?_
  obtain ⟨q78, hq78, h⟩ := i_bdE h
  refine i_rcall (k := 222) (as := [.ref 50, .int (X.2 (Int32.toNatClampNeg (l3 + (1 : Int32))))]) (cf1 := (682, [some (.ref 100), some (.ref 0), some (.ref 50), some (.int l3)], [.int q77.1], i_S X q77.2)) (cf' := (682, [some (.ref 100), some (.ref 0), some (.ref 50), some (.int l3)], [.int q78.1, .int q77.1], i_S X q78.2)) rfl (ok_r_dig (by omega) hq78) rfl ?_
  by_cases c79 : q77.1 = q78.1
  · replace h := (if_pos c79).symm.trans h
    refine i_rbT (c := q77.1 = q78.1) (t := 1466) (n := 685) rfl c79 ?_
    refine i_rs 2 (cf' := (18, [some (.ref 100), some (.ref 0), some (.ref 50), some (.int (l3 + (6 : Int32)))], [], i_S X q78.2)) rfl ?_
    refine i_fg (lv' := [some (.ref 100), some (.ref 0), some (.ref 50), some (.int (l3 + (6 : Int32)))]) (And.intro rfl (And.intro rfl (And.intro rfl (And.intro rfl True.intro)))) ?_
    exact hself (l3 + (6 : Int32)) q78.2 _ h
  · replace h := (if_neg c79).symm.trans h
    refine i_rbF (c := q77.1 = q78.1) (t := 1466) (n := 685) rfl c79 ?_
    refine i_rs 1 (cf' := (686, [some (.ref 100), some (.ref 0), some (.ref 50), some (.int l3)], [.int (0 : Int32)], i_S X q78.2)) rfl ?_
    obtain rfl := Option.some.inj h
    exact i_rretZ rfl (Or.inl rfl) rfl
def w_law_B621 (X : Nat × (Nat → Int32)) (self : Int32 → I_M → Option (Int32 × I_M)) (l3 : Int32) (M : I_M) : Option (Int32 × I_M) :=
  i_g (l3 + (1 : Int32)) X.1 (i_g (l3 + (2 : Int32)) X.1 (i_g (l3 + (3 : Int32)) X.1 (Option.bind (b_chance (X.2 (Int32.toNatClampNeg (l3 + (1 : Int32)))) (X.2 (Int32.toNatClampNeg (l3 + (2 : Int32)))) (X.2 (Int32.toNatClampNeg (l3 + (3 : Int32)))) M) (fun q217 => Option.bind (r_chance (X.2 (Int32.toNatClampNeg (l3 + (1 : Int32)))) (X.2 (Int32.toNatClampNeg (l3 + (2 : Int32)))) (X.2 (Int32.toNatClampNeg (l3 + (3 : Int32)))) q217.2) (fun q218 => (if q217.1 = q218.1 then
      self (l3 + (6 : Int32)) q218.2
    else
      some ((0 : Int32), q218.2)))))))
set_option maxHeartbeats 20000000 in
set_option maxRecDepth 100000 in
theorem ok_w_law_B621 {X : Nat × (Nat → Int32)} {d : Nat} {self : Int32 → I_M → Option (Int32 × I_M)} {l3 : Int32} {M : I_M} {r : (Int32 × I_M)} (hself : ∀ (m3 : Int32) (M : I_M) (r : (Int32 × I_M)), self m3 M = some r → I_RnE (I_Ex d) i_c266 (18, [some (.ref 100), some (.ref 0), some (.ref 50), some (.int m3)], [], i_S X M) (some (.int r.1)) (i_S X r.2)) (hd : 81 ≤ d + 1) (h : w_law_B621 X self l3 M = some r) : I_RnE (I_Ex d) i_c266 (621, [some (.ref 100), some (.ref 0), some (.ref 50), some (.int l3)], [], i_S X M) (some (.int r.1)) (i_S X r.2) := by
  unfold w_law_B621 at h
  refine i_rs 5 (cf' := (626, [some (.ref 100), some (.ref 0), some (.ref 50), some (.int l3)], [.int (l3 + (1 : Int32)), .ref 100, .ref 0], i_S X M)) rfl ?_
  obtain ⟨g214, h⟩ := i_gE h
  refine i_riald (n := X.1) (cf' := (627, [some (.ref 100), some (.ref 0), some (.ref 50), some (.int l3)], [.int (X.2 (Int32.toNatClampNeg (l3 + (1 : Int32)))), .ref 0], i_S X M)) rfl rfl (by decide) g214 rfl ?_
  refine i_rs 4 (cf' := (631, [some (.ref 100), some (.ref 0), some (.ref 50), some (.int l3)], [.int (l3 + (2 : Int32)), .ref 100, .int (X.2 (Int32.toNatClampNeg (l3 + (1 : Int32)))), .ref 0], i_S X M)) rfl ?_
  obtain ⟨g215, h⟩ := i_gE h
  refine i_riald (n := X.1) (cf' := (632, [some (.ref 100), some (.ref 0), some (.ref 50), some (.int l3)], [.int (X.2 (Int32.toNatClampNeg (l3 + (2 : Int32)))), .int (X.2 (Int32.toNatClampNeg (l3 + (1 : Int32)))), .ref 0], i_S X M)) rfl rfl (by decide) g215 rfl ?_
  refine i_rs 4 (cf' := (636, [some (.ref 100), some (.ref 0), some (.ref 50), some (.int l3)], [.int (l3 + (3 : Int32)), .ref 100, .int (X.2 (Int32.toNatClampNeg (l3 + (2 : Int32)))), .int (X.2 (Int32.toNatClampNeg (l3 + (1 : Int32)))), .ref 0], i_S X M)) rfl ?_
  obtain ⟨g216, h⟩ := i_gE h
  refine i_riald (n := X.1) (cf' := (637, [some (.ref 100), some (.ref 0), some (.ref 50), some (.int l3)], [.int (X.2 (Int32.toNatClampNeg (l3 + (3 : Int32)))), .int (X.2 (Int32.toNatClampNeg (l3 + (2 : Int32)))), .int (X.2 (Int32.toNatClampNeg (l3 + (1 : Int32)))), .ref 0], i_S X M)) rfl rfl (by decide) g216 rfl ?_
  obtain ⟨q217, hq217, h⟩ := i_bdE h
  refine i_rcall (k := 92) (as := [.ref 0, .int (X.2 (Int32.toNatClampNeg (l3 + (1 : Int32)))), .int (X.2 (Int32.toNatClampNeg (l3 + (2 : Int32)))), .int (X.2 (Int32.toNatClampNeg (l3 + (3 : Int32))))]) (cf1 := (640, [some (.ref 100), some (.ref 0), some (.ref 50), some (.int l3)], [], i_S X M)) (cf' := (640, [some (.ref 100), some (.ref 0), some (.ref 50), some (.int l3)], [.int q217.1], i_S X q217.2)) rfl (ok_b_chance (by omega) hq217) rfl ?_
  refine i_rs 5 (cf' := (645, [some (.ref 100), some (.ref 0), some (.ref 50), some (.int l3)], [.int (l3 + (1 : Int32)), .ref 100, .ref 50, .int q217.1], i_S X q217.2)) rfl ?_
  refine i_riald (n := X.1) (cf' := (646, [some (.ref 100), some (.ref 0), some (.ref 50), some (.int l3)], [.int (X.2 (Int32.toNatClampNeg (l3 + (1 : Int32)))), .ref 50, .int q217.1], i_S X q217.2)) rfl rfl (by decide) g214 rfl ?_
  refine i_rs 4 (cf' := (650, [some (.ref 100), some (.ref 0), some (.ref 50), some (.int l3)], [.int (l3 + (2 : Int32)), .ref 100, .int (X.2 (Int32.toNatClampNeg (l3 + (1 : Int32)))), .ref 50, .int q217.1], i_S X q217.2)) rfl ?_
  refine i_riald (n := X.1) (cf' := (651, [some (.ref 100), some (.ref 0), some (.ref 50), some (.int l3)], [.int (X.2 (Int32.toNatClampNeg (l3 + (2 : Int32)))), .int (X.2 (Int32.toNatClampNeg (l3 + (1 : Int32)))), .ref 50, .int q217.1], i_S X q217.2)) rfl rfl (by decide) g215 rfl ?_
  refine i_rs 4 (cf' := (655, [some (.ref 100), some (.ref 0), some (.ref 50), some (.int l3)], [.int (l3 + (3 : Int32)), .ref 100, .int (X.2 (Int32.toNatClampNeg (l3 + (2 : Int32)))), .int (X.2 (Int32.toNatClampNeg (l3 + (1 : Int32)))), .ref 50, .int q217.1], i_S X q217.2)) rfl ?_
  refine i_riald (n := X.1) (cf' := (656, [some (.ref 100), some (.ref 0), some (.ref 50), some (.int l3)], [.int (X.2 (Int32.toNatClampNeg (l3 + (3 : Int32)))), .int (X.2 (Int32.toNatClampNeg (l3 + (2 : Int32)))), .int (X.2 (Int32.toNatClampNeg (l3 + (1 : Int32)))), .ref 50, .int q217.1], i_S X q217.2)) rfl rfl (by decide) g216 rfl ?_
  obtain ⟨q218, hq218, h⟩ := i_bdE h
  refine i_rcall (k := 220) (as := [.ref 50, .int (X.2 (Int32.toNatClampNeg (l3 + (1 : Int32)))), .int (X.2 (Int32.toNatClampNeg (l3 + (2 : Int32)))), .int (X.2 (Int32.toNatClampNeg (l3 + (3 : Int32))))]) (cf1 := (659, [some (.ref 100), some (.ref 0), some (.ref 50), some (.int l3)], [.int q217.1], i_S X q217.2)) (cf' := (659, [some (.ref 100), some (.ref 0), some (.ref 50), some (.int l3)], [.int q218.1, .int q217.1], i_S X q218.2)) rfl (ok_r_chance (by omega) hq218) rfl ?_
  by_cases c219 : q217.1 = q218.1
  · replace h := (if_pos c219).symm.trans h
    refine i_rbT (c := q217.1 = q218.1) (t := 1466) (n := 662) rfl c219 ?_
    refine i_rs 2 (cf' := (18, [some (.ref 100), some (.ref 0), some (.ref 50), some (.int (l3 + (6 : Int32)))], [], i_S X q218.2)) rfl ?_
    refine i_fg (lv' := [some (.ref 100), some (.ref 0), some (.ref 50), some (.int (l3 + (6 : Int32)))]) (And.intro rfl (And.intro rfl (And.intro rfl (And.intro rfl True.intro)))) ?_
    exact hself (l3 + (6 : Int32)) q218.2 _ h
  · replace h := (if_neg c219).symm.trans h
    refine i_rbF (c := q217.1 = q218.1) (t := 1466) (n := 662) rfl c219 ?_
    refine i_rs 1 (cf' := (663, [some (.ref 100), some (.ref 0), some (.ref 50), some (.int l3)], [.int (0 : Int32)], i_S X q218.2)) rfl ?_
    obtain rfl := Option.some.inj h
    exact i_rretZ rfl (Or.inl rfl) rfl
def w_law_B588 (X : Nat × (Nat → Int32)) (self : Int32 → I_M → Option (Int32 × I_M)) (l3 : Int32) (M : I_M) : Option (Int32 × I_M) :=
  i_g (l3 + (1 : Int32)) X.1 (i_g (l3 + (2 : Int32)) X.1 (Option.bind (b_sure (X.2 (Int32.toNatClampNeg (l3 + (1 : Int32)))) (X.2 (Int32.toNatClampNeg (l3 + (2 : Int32)))) M) (fun q168 => Option.bind (r_sure (X.2 (Int32.toNatClampNeg (l3 + (1 : Int32)))) (X.2 (Int32.toNatClampNeg (l3 + (2 : Int32)))) q168.2) (fun q169 => (if q168.1 = q169.1 then
      self (l3 + (6 : Int32)) q169.2
    else
      some ((0 : Int32), q169.2))))))
set_option maxHeartbeats 20000000 in
set_option maxRecDepth 100000 in
theorem ok_w_law_B588 {X : Nat × (Nat → Int32)} {d : Nat} {self : Int32 → I_M → Option (Int32 × I_M)} {l3 : Int32} {M : I_M} {r : (Int32 × I_M)} (hself : ∀ (m3 : Int32) (M : I_M) (r : (Int32 × I_M)), self m3 M = some r → I_RnE (I_Ex d) i_c266 (18, [some (.ref 100), some (.ref 0), some (.ref 50), some (.int m3)], [], i_S X M) (some (.int r.1)) (i_S X r.2)) (hd : 81 ≤ d + 1) (h : w_law_B588 X self l3 M = some r) : I_RnE (I_Ex d) i_c266 (588, [some (.ref 100), some (.ref 0), some (.ref 50), some (.int l3)], [], i_S X M) (some (.int r.1)) (i_S X r.2) := by
  unfold w_law_B588 at h
  refine i_rs 5 (cf' := (593, [some (.ref 100), some (.ref 0), some (.ref 50), some (.int l3)], [.int (l3 + (1 : Int32)), .ref 100, .ref 0], i_S X M)) rfl ?_
  obtain ⟨g166, h⟩ := i_gE h
  refine i_riald (n := X.1) (cf' := (594, [some (.ref 100), some (.ref 0), some (.ref 50), some (.int l3)], [.int (X.2 (Int32.toNatClampNeg (l3 + (1 : Int32)))), .ref 0], i_S X M)) rfl rfl (by decide) g166 rfl ?_
  refine i_rs 4 (cf' := (598, [some (.ref 100), some (.ref 0), some (.ref 50), some (.int l3)], [.int (l3 + (2 : Int32)), .ref 100, .int (X.2 (Int32.toNatClampNeg (l3 + (1 : Int32)))), .ref 0], i_S X M)) rfl ?_
  obtain ⟨g167, h⟩ := i_gE h
  refine i_riald (n := X.1) (cf' := (599, [some (.ref 100), some (.ref 0), some (.ref 50), some (.int l3)], [.int (X.2 (Int32.toNatClampNeg (l3 + (2 : Int32)))), .int (X.2 (Int32.toNatClampNeg (l3 + (1 : Int32)))), .ref 0], i_S X M)) rfl rfl (by decide) g167 rfl ?_
  obtain ⟨q168, hq168, h⟩ := i_bdE h
  refine i_rcall (k := 90) (as := [.ref 0, .int (X.2 (Int32.toNatClampNeg (l3 + (1 : Int32)))), .int (X.2 (Int32.toNatClampNeg (l3 + (2 : Int32))))]) (cf1 := (602, [some (.ref 100), some (.ref 0), some (.ref 50), some (.int l3)], [], i_S X M)) (cf' := (602, [some (.ref 100), some (.ref 0), some (.ref 50), some (.int l3)], [.int q168.1], i_S X q168.2)) rfl (ok_b_sure (by omega) hq168) rfl ?_
  refine i_rs 5 (cf' := (607, [some (.ref 100), some (.ref 0), some (.ref 50), some (.int l3)], [.int (l3 + (1 : Int32)), .ref 100, .ref 50, .int q168.1], i_S X q168.2)) rfl ?_
  refine i_riald (n := X.1) (cf' := (608, [some (.ref 100), some (.ref 0), some (.ref 50), some (.int l3)], [.int (X.2 (Int32.toNatClampNeg (l3 + (1 : Int32)))), .ref 50, .int q168.1], i_S X q168.2)) rfl rfl (by decide) g166 rfl ?_
  refine i_rs 4 (cf' := (612, [some (.ref 100), some (.ref 0), some (.ref 50), some (.int l3)], [.int (l3 + (2 : Int32)), .ref 100, .int (X.2 (Int32.toNatClampNeg (l3 + (1 : Int32)))), .ref 50, .int q168.1], i_S X q168.2)) rfl ?_
  refine i_riald (n := X.1) (cf' := (613, [some (.ref 100), some (.ref 0), some (.ref 50), some (.int l3)], [.int (X.2 (Int32.toNatClampNeg (l3 + (2 : Int32)))), .int (X.2 (Int32.toNatClampNeg (l3 + (1 : Int32)))), .ref 50, .int q168.1], i_S X q168.2)) rfl rfl (by decide) g167 rfl ?_
  obtain ⟨q169, hq169, h⟩ := i_bdE h
  refine i_rcall (k := 219) (as := [.ref 50, .int (X.2 (Int32.toNatClampNeg (l3 + (1 : Int32)))), .int (X.2 (Int32.toNatClampNeg (l3 + (2 : Int32))))]) (cf1 := (616, [some (.ref 100), some (.ref 0), some (.ref 50), some (.int l3)], [.int q168.1], i_S X q168.2)) (cf' := (616, [some (.ref 100), some (.ref 0), some (.ref 50), some (.int l3)], [.int q169.1, .int q168.1], i_S X q169.2)) rfl (ok_r_sure (by omega) hq169) rfl ?_
  by_cases c170 : q168.1 = q169.1
  · replace h := (if_pos c170).symm.trans h
    refine i_rbT (c := q168.1 = q169.1) (t := 1466) (n := 619) rfl c170 ?_
    refine i_rs 2 (cf' := (18, [some (.ref 100), some (.ref 0), some (.ref 50), some (.int (l3 + (6 : Int32)))], [], i_S X q169.2)) rfl ?_
    refine i_fg (lv' := [some (.ref 100), some (.ref 0), some (.ref 50), some (.int (l3 + (6 : Int32)))]) (And.intro rfl (And.intro rfl (And.intro rfl (And.intro rfl True.intro)))) ?_
    exact hself (l3 + (6 : Int32)) q169.2 _ h
  · replace h := (if_neg c170).symm.trans h
    refine i_rbF (c := q168.1 = q169.1) (t := 1466) (n := 619) rfl c170 ?_
    refine i_rs 1 (cf' := (620, [some (.ref 100), some (.ref 0), some (.ref 50), some (.int l3)], [.int (0 : Int32)], i_S X q169.2)) rfl ?_
    obtain rfl := Option.some.inj h
    exact i_rretZ rfl (Or.inl rfl) rfl
def w_law_B555 (X : Nat × (Nat → Int32)) (self : Int32 → I_M → Option (Int32 × I_M)) (l3 : Int32) (M : I_M) : Option (Int32 × I_M) :=
  i_g (l3 + (1 : Int32)) X.1 (i_g (l3 + (2 : Int32)) X.1 (Option.bind (b_ways (X.2 (Int32.toNatClampNeg (l3 + (1 : Int32)))) (X.2 (Int32.toNatClampNeg (l3 + (2 : Int32)))) M) (fun q118 => Option.bind (r_ways (X.2 (Int32.toNatClampNeg (l3 + (1 : Int32)))) (X.2 (Int32.toNatClampNeg (l3 + (2 : Int32)))) q118.2) (fun q119 => (if q118.1 = q119.1 then
      self (l3 + (6 : Int32)) q119.2
    else
      some ((0 : Int32), q119.2))))))
set_option maxHeartbeats 20000000 in
set_option maxRecDepth 100000 in
theorem ok_w_law_B555 {X : Nat × (Nat → Int32)} {d : Nat} {self : Int32 → I_M → Option (Int32 × I_M)} {l3 : Int32} {M : I_M} {r : (Int32 × I_M)} (hself : ∀ (m3 : Int32) (M : I_M) (r : (Int32 × I_M)), self m3 M = some r → I_RnE (I_Ex d) i_c266 (18, [some (.ref 100), some (.ref 0), some (.ref 50), some (.int m3)], [], i_S X M) (some (.int r.1)) (i_S X r.2)) (hd : 81 ≤ d + 1) (h : w_law_B555 X self l3 M = some r) : I_RnE (I_Ex d) i_c266 (555, [some (.ref 100), some (.ref 0), some (.ref 50), some (.int l3)], [], i_S X M) (some (.int r.1)) (i_S X r.2) := by
  unfold w_law_B555 at h
  refine i_rs 5 (cf' := (560, [some (.ref 100), some (.ref 0), some (.ref 50), some (.int l3)], [.int (l3 + (1 : Int32)), .ref 100, .ref 0], i_S X M)) rfl ?_
  obtain ⟨g116, h⟩ := i_gE h
  refine i_riald (n := X.1) (cf' := (561, [some (.ref 100), some (.ref 0), some (.ref 50), some (.int l3)], [.int (X.2 (Int32.toNatClampNeg (l3 + (1 : Int32)))), .ref 0], i_S X M)) rfl rfl (by decide) g116 rfl ?_
  refine i_rs 4 (cf' := (565, [some (.ref 100), some (.ref 0), some (.ref 50), some (.int l3)], [.int (l3 + (2 : Int32)), .ref 100, .int (X.2 (Int32.toNatClampNeg (l3 + (1 : Int32)))), .ref 0], i_S X M)) rfl ?_
  obtain ⟨g117, h⟩ := i_gE h
  refine i_riald (n := X.1) (cf' := (566, [some (.ref 100), some (.ref 0), some (.ref 50), some (.int l3)], [.int (X.2 (Int32.toNatClampNeg (l3 + (2 : Int32)))), .int (X.2 (Int32.toNatClampNeg (l3 + (1 : Int32)))), .ref 0], i_S X M)) rfl rfl (by decide) g117 rfl ?_
  obtain ⟨q118, hq118, h⟩ := i_bdE h
  refine i_rcall (k := 80) (as := [.ref 0, .int (X.2 (Int32.toNatClampNeg (l3 + (1 : Int32)))), .int (X.2 (Int32.toNatClampNeg (l3 + (2 : Int32))))]) (cf1 := (569, [some (.ref 100), some (.ref 0), some (.ref 50), some (.int l3)], [], i_S X M)) (cf' := (569, [some (.ref 100), some (.ref 0), some (.ref 50), some (.int l3)], [.int q118.1], i_S X q118.2)) rfl (ok_b_ways (by omega) hq118) rfl ?_
  refine i_rs 5 (cf' := (574, [some (.ref 100), some (.ref 0), some (.ref 50), some (.int l3)], [.int (l3 + (1 : Int32)), .ref 100, .ref 50, .int q118.1], i_S X q118.2)) rfl ?_
  refine i_riald (n := X.1) (cf' := (575, [some (.ref 100), some (.ref 0), some (.ref 50), some (.int l3)], [.int (X.2 (Int32.toNatClampNeg (l3 + (1 : Int32)))), .ref 50, .int q118.1], i_S X q118.2)) rfl rfl (by decide) g116 rfl ?_
  refine i_rs 4 (cf' := (579, [some (.ref 100), some (.ref 0), some (.ref 50), some (.int l3)], [.int (l3 + (2 : Int32)), .ref 100, .int (X.2 (Int32.toNatClampNeg (l3 + (1 : Int32)))), .ref 50, .int q118.1], i_S X q118.2)) rfl ?_
  refine i_riald (n := X.1) (cf' := (580, [some (.ref 100), some (.ref 0), some (.ref 50), some (.int l3)], [.int (X.2 (Int32.toNatClampNeg (l3 + (2 : Int32)))), .int (X.2 (Int32.toNatClampNeg (l3 + (1 : Int32)))), .ref 50, .int q118.1], i_S X q118.2)) rfl rfl (by decide) g117 rfl ?_
  obtain ⟨q119, hq119, h⟩ := i_bdE h
  refine i_rcall (k := 212) (as := [.ref 50, .int (X.2 (Int32.toNatClampNeg (l3 + (1 : Int32)))), .int (X.2 (Int32.toNatClampNeg (l3 + (2 : Int32))))]) (cf1 := (583, [some (.ref 100), some (.ref 0), some (.ref 50), some (.int l3)], [.int q118.1], i_S X q118.2)) (cf' := (583, [some (.ref 100), some (.ref 0), some (.ref 50), some (.int l3)], [.int q119.1, .int q118.1], i_S X q119.2)) rfl (ok_r_ways (by omega) hq119) rfl ?_
  by_cases c120 : q118.1 = q119.1
  · replace h := (if_pos c120).symm.trans h
    refine i_rbT (c := q118.1 = q119.1) (t := 1466) (n := 586) rfl c120 ?_
    refine i_rs 2 (cf' := (18, [some (.ref 100), some (.ref 0), some (.ref 50), some (.int (l3 + (6 : Int32)))], [], i_S X q119.2)) rfl ?_
    refine i_fg (lv' := [some (.ref 100), some (.ref 0), some (.ref 50), some (.int (l3 + (6 : Int32)))]) (And.intro rfl (And.intro rfl (And.intro rfl (And.intro rfl True.intro)))) ?_
    exact hself (l3 + (6 : Int32)) q119.2 _ h
  · replace h := (if_neg c120).symm.trans h
    refine i_rbF (c := q118.1 = q119.1) (t := 1466) (n := 586) rfl c120 ?_
    refine i_rs 1 (cf' := (587, [some (.ref 100), some (.ref 0), some (.ref 50), some (.int l3)], [.int (0 : Int32)], i_S X q119.2)) rfl ?_
    obtain rfl := Option.some.inj h
    exact i_rretZ rfl (Or.inl rfl) rfl
def w_law_B542 (X : Nat × (Nat → Int32)) (self : Int32 → I_M → Option (Int32 × I_M)) (l3 : Int32) (M : I_M) : Option (Int32 × I_M) :=
  Option.bind (b_forget M) (fun q86 => Option.bind (r_forget q86.2) (fun q87 => (if q86.1 = q87.1 then
      self (l3 + (6 : Int32)) q87.2
    else
      some ((0 : Int32), q87.2))))
set_option maxHeartbeats 20000000 in
set_option maxRecDepth 100000 in
theorem ok_w_law_B542 {X : Nat × (Nat → Int32)} {d : Nat} {self : Int32 → I_M → Option (Int32 × I_M)} {l3 : Int32} {M : I_M} {r : (Int32 × I_M)} (hself : ∀ (m3 : Int32) (M : I_M) (r : (Int32 × I_M)), self m3 M = some r → I_RnE (I_Ex d) i_c266 (18, [some (.ref 100), some (.ref 0), some (.ref 50), some (.int m3)], [], i_S X M) (some (.int r.1)) (i_S X r.2)) (hd : 81 ≤ d + 1) (h : w_law_B542 X self l3 M = some r) : I_RnE (I_Ex d) i_c266 (542, [some (.ref 100), some (.ref 0), some (.ref 50), some (.int l3)], [], i_S X M) (some (.int r.1)) (i_S X r.2) := by
  unfold w_law_B542 at h
  refine i_rs 1 (cf' := (543, [some (.ref 100), some (.ref 0), some (.ref 50), some (.int l3)], [.ref 0], i_S X M)) rfl ?_
  obtain ⟨q86, hq86, h⟩ := i_bdE h
  refine i_rcall (k := 79) (as := [.ref 0]) (cf1 := (546, [some (.ref 100), some (.ref 0), some (.ref 50), some (.int l3)], [], i_S X M)) (cf' := (546, [some (.ref 100), some (.ref 0), some (.ref 50), some (.int l3)], [.int q86.1], i_S X q86.2)) rfl (ok_b_forget (by omega) hq86) rfl ?_
  refine i_rs 1 (cf' := (547, [some (.ref 100), some (.ref 0), some (.ref 50), some (.int l3)], [.ref 50, .int q86.1], i_S X q86.2)) rfl ?_
  obtain ⟨q87, hq87, h⟩ := i_bdE h
  refine i_rcall (k := 211) (as := [.ref 50]) (cf1 := (550, [some (.ref 100), some (.ref 0), some (.ref 50), some (.int l3)], [.int q86.1], i_S X q86.2)) (cf' := (550, [some (.ref 100), some (.ref 0), some (.ref 50), some (.int l3)], [.int q87.1, .int q86.1], i_S X q87.2)) rfl (ok_r_forget (by omega) hq87) rfl ?_
  by_cases c88 : q86.1 = q87.1
  · replace h := (if_pos c88).symm.trans h
    refine i_rbT (c := q86.1 = q87.1) (t := 1466) (n := 553) rfl c88 ?_
    refine i_rs 2 (cf' := (18, [some (.ref 100), some (.ref 0), some (.ref 50), some (.int (l3 + (6 : Int32)))], [], i_S X q87.2)) rfl ?_
    refine i_fg (lv' := [some (.ref 100), some (.ref 0), some (.ref 50), some (.int (l3 + (6 : Int32)))]) (And.intro rfl (And.intro rfl (And.intro rfl (And.intro rfl True.intro)))) ?_
    exact hself (l3 + (6 : Int32)) q87.2 _ h
  · replace h := (if_neg c88).symm.trans h
    refine i_rbF (c := q86.1 = q87.1) (t := 1466) (n := 553) rfl c88 ?_
    refine i_rs 1 (cf' := (554, [some (.ref 100), some (.ref 0), some (.ref 50), some (.int l3)], [.int (0 : Int32)], i_S X q87.2)) rfl ?_
    obtain rfl := Option.some.inj h
    exact i_rretZ rfl (Or.inl rfl) rfl
def w_law_B499 (X : Nat × (Nat → Int32)) (self : Int32 → I_M → Option (Int32 × I_M)) (l3 : Int32) (M : I_M) : Option (Int32 × I_M) :=
  i_g (l3 + (1 : Int32)) X.1 (i_g (l3 + (2 : Int32)) X.1 (i_g (l3 + (3 : Int32)) X.1 (Option.bind (b_hearing (X.2 (Int32.toNatClampNeg (l3 + (1 : Int32)))) (X.2 (Int32.toNatClampNeg (l3 + (2 : Int32)))) (X.2 (Int32.toNatClampNeg (l3 + (3 : Int32)))) M) (fun q227 => Option.bind (r_hearing (X.2 (Int32.toNatClampNeg (l3 + (1 : Int32)))) (X.2 (Int32.toNatClampNeg (l3 + (2 : Int32)))) (X.2 (Int32.toNatClampNeg (l3 + (3 : Int32)))) q227.2) (fun q228 => (if q227.1 = q228.1 then
      self (l3 + (6 : Int32)) q228.2
    else
      some ((0 : Int32), q228.2)))))))
set_option maxHeartbeats 20000000 in
set_option maxRecDepth 100000 in
theorem ok_w_law_B499 {X : Nat × (Nat → Int32)} {d : Nat} {self : Int32 → I_M → Option (Int32 × I_M)} {l3 : Int32} {M : I_M} {r : (Int32 × I_M)} (hself : ∀ (m3 : Int32) (M : I_M) (r : (Int32 × I_M)), self m3 M = some r → I_RnE (I_Ex d) i_c266 (18, [some (.ref 100), some (.ref 0), some (.ref 50), some (.int m3)], [], i_S X M) (some (.int r.1)) (i_S X r.2)) (hd : 81 ≤ d + 1) (h : w_law_B499 X self l3 M = some r) : I_RnE (I_Ex d) i_c266 (499, [some (.ref 100), some (.ref 0), some (.ref 50), some (.int l3)], [], i_S X M) (some (.int r.1)) (i_S X r.2) := by
  unfold w_law_B499 at h
  refine i_rs 5 (cf' := (504, [some (.ref 100), some (.ref 0), some (.ref 50), some (.int l3)], [.int (l3 + (1 : Int32)), .ref 100, .ref 0], i_S X M)) rfl ?_
  obtain ⟨g224, h⟩ := i_gE h
  refine i_riald (n := X.1) (cf' := (505, [some (.ref 100), some (.ref 0), some (.ref 50), some (.int l3)], [.int (X.2 (Int32.toNatClampNeg (l3 + (1 : Int32)))), .ref 0], i_S X M)) rfl rfl (by decide) g224 rfl ?_
  refine i_rs 4 (cf' := (509, [some (.ref 100), some (.ref 0), some (.ref 50), some (.int l3)], [.int (l3 + (2 : Int32)), .ref 100, .int (X.2 (Int32.toNatClampNeg (l3 + (1 : Int32)))), .ref 0], i_S X M)) rfl ?_
  obtain ⟨g225, h⟩ := i_gE h
  refine i_riald (n := X.1) (cf' := (510, [some (.ref 100), some (.ref 0), some (.ref 50), some (.int l3)], [.int (X.2 (Int32.toNatClampNeg (l3 + (2 : Int32)))), .int (X.2 (Int32.toNatClampNeg (l3 + (1 : Int32)))), .ref 0], i_S X M)) rfl rfl (by decide) g225 rfl ?_
  refine i_rs 4 (cf' := (514, [some (.ref 100), some (.ref 0), some (.ref 50), some (.int l3)], [.int (l3 + (3 : Int32)), .ref 100, .int (X.2 (Int32.toNatClampNeg (l3 + (2 : Int32)))), .int (X.2 (Int32.toNatClampNeg (l3 + (1 : Int32)))), .ref 0], i_S X M)) rfl ?_
  obtain ⟨g226, h⟩ := i_gE h
  refine i_riald (n := X.1) (cf' := (515, [some (.ref 100), some (.ref 0), some (.ref 50), some (.int l3)], [.int (X.2 (Int32.toNatClampNeg (l3 + (3 : Int32)))), .int (X.2 (Int32.toNatClampNeg (l3 + (2 : Int32)))), .int (X.2 (Int32.toNatClampNeg (l3 + (1 : Int32)))), .ref 0], i_S X M)) rfl rfl (by decide) g226 rfl ?_
  obtain ⟨q227, hq227, h⟩ := i_bdE h
  refine i_rcall (k := 77) (as := [.ref 0, .int (X.2 (Int32.toNatClampNeg (l3 + (1 : Int32)))), .int (X.2 (Int32.toNatClampNeg (l3 + (2 : Int32)))), .int (X.2 (Int32.toNatClampNeg (l3 + (3 : Int32))))]) (cf1 := (518, [some (.ref 100), some (.ref 0), some (.ref 50), some (.int l3)], [], i_S X M)) (cf' := (518, [some (.ref 100), some (.ref 0), some (.ref 50), some (.int l3)], [.int q227.1], i_S X q227.2)) rfl (ok_b_hearing (by omega) hq227) rfl ?_
  refine i_rs 5 (cf' := (523, [some (.ref 100), some (.ref 0), some (.ref 50), some (.int l3)], [.int (l3 + (1 : Int32)), .ref 100, .ref 50, .int q227.1], i_S X q227.2)) rfl ?_
  refine i_riald (n := X.1) (cf' := (524, [some (.ref 100), some (.ref 0), some (.ref 50), some (.int l3)], [.int (X.2 (Int32.toNatClampNeg (l3 + (1 : Int32)))), .ref 50, .int q227.1], i_S X q227.2)) rfl rfl (by decide) g224 rfl ?_
  refine i_rs 4 (cf' := (528, [some (.ref 100), some (.ref 0), some (.ref 50), some (.int l3)], [.int (l3 + (2 : Int32)), .ref 100, .int (X.2 (Int32.toNatClampNeg (l3 + (1 : Int32)))), .ref 50, .int q227.1], i_S X q227.2)) rfl ?_
  refine i_riald (n := X.1) (cf' := (529, [some (.ref 100), some (.ref 0), some (.ref 50), some (.int l3)], [.int (X.2 (Int32.toNatClampNeg (l3 + (2 : Int32)))), .int (X.2 (Int32.toNatClampNeg (l3 + (1 : Int32)))), .ref 50, .int q227.1], i_S X q227.2)) rfl rfl (by decide) g225 rfl ?_
  refine i_rs 4 (cf' := (533, [some (.ref 100), some (.ref 0), some (.ref 50), some (.int l3)], [.int (l3 + (3 : Int32)), .ref 100, .int (X.2 (Int32.toNatClampNeg (l3 + (2 : Int32)))), .int (X.2 (Int32.toNatClampNeg (l3 + (1 : Int32)))), .ref 50, .int q227.1], i_S X q227.2)) rfl ?_
  refine i_riald (n := X.1) (cf' := (534, [some (.ref 100), some (.ref 0), some (.ref 50), some (.int l3)], [.int (X.2 (Int32.toNatClampNeg (l3 + (3 : Int32)))), .int (X.2 (Int32.toNatClampNeg (l3 + (2 : Int32)))), .int (X.2 (Int32.toNatClampNeg (l3 + (1 : Int32)))), .ref 50, .int q227.1], i_S X q227.2)) rfl rfl (by decide) g226 rfl ?_
  obtain ⟨q228, hq228, h⟩ := i_bdE h
  refine i_rcall (k := 210) (as := [.ref 50, .int (X.2 (Int32.toNatClampNeg (l3 + (1 : Int32)))), .int (X.2 (Int32.toNatClampNeg (l3 + (2 : Int32)))), .int (X.2 (Int32.toNatClampNeg (l3 + (3 : Int32))))]) (cf1 := (537, [some (.ref 100), some (.ref 0), some (.ref 50), some (.int l3)], [.int q227.1], i_S X q227.2)) (cf' := (537, [some (.ref 100), some (.ref 0), some (.ref 50), some (.int l3)], [.int q228.1, .int q227.1], i_S X q228.2)) rfl (ok_r_hearing (by omega) hq228) rfl ?_
  by_cases c229 : q227.1 = q228.1
  · replace h := (if_pos c229).symm.trans h
    refine i_rbT (c := q227.1 = q228.1) (t := 1466) (n := 540) rfl c229 ?_
    refine i_rs 2 (cf' := (18, [some (.ref 100), some (.ref 0), some (.ref 50), some (.int (l3 + (6 : Int32)))], [], i_S X q228.2)) rfl ?_
    refine i_fg (lv' := [some (.ref 100), some (.ref 0), some (.ref 50), some (.int (l3 + (6 : Int32)))]) (And.intro rfl (And.intro rfl (And.intro rfl (And.intro rfl True.intro)))) ?_
    exact hself (l3 + (6 : Int32)) q228.2 _ h
  · replace h := (if_neg c229).symm.trans h
    refine i_rbF (c := q227.1 = q228.1) (t := 1466) (n := 540) rfl c229 ?_
    refine i_rs 1 (cf' := (541, [some (.ref 100), some (.ref 0), some (.ref 50), some (.int l3)], [.int (0 : Int32)], i_S X q228.2)) rfl ?_
    obtain rfl := Option.some.inj h
    exact i_rretZ rfl (Or.inl rfl) rfl
def w_law_B466 (X : Nat × (Nat → Int32)) (self : Int32 → I_M → Option (Int32 × I_M)) (l3 : Int32) (M : I_M) : Option (Int32 × I_M) :=
  i_g (l3 + (1 : Int32)) X.1 (i_g (l3 + (2 : Int32)) X.1 (Option.bind (b_heard (X.2 (Int32.toNatClampNeg (l3 + (1 : Int32)))) (X.2 (Int32.toNatClampNeg (l3 + (2 : Int32)))) M) (fun q178 => Option.bind (r_heard (X.2 (Int32.toNatClampNeg (l3 + (1 : Int32)))) (X.2 (Int32.toNatClampNeg (l3 + (2 : Int32)))) q178.2) (fun q179 => (if q178.1 = q179.1 then
      self (l3 + (6 : Int32)) q179.2
    else
      some ((0 : Int32), q179.2))))))
set_option maxHeartbeats 20000000 in
set_option maxRecDepth 100000 in
theorem ok_w_law_B466 {X : Nat × (Nat → Int32)} {d : Nat} {self : Int32 → I_M → Option (Int32 × I_M)} {l3 : Int32} {M : I_M} {r : (Int32 × I_M)} (hself : ∀ (m3 : Int32) (M : I_M) (r : (Int32 × I_M)), self m3 M = some r → I_RnE (I_Ex d) i_c266 (18, [some (.ref 100), some (.ref 0), some (.ref 50), some (.int m3)], [], i_S X M) (some (.int r.1)) (i_S X r.2)) (hd : 81 ≤ d + 1) (h : w_law_B466 X self l3 M = some r) : I_RnE (I_Ex d) i_c266 (466, [some (.ref 100), some (.ref 0), some (.ref 50), some (.int l3)], [], i_S X M) (some (.int r.1)) (i_S X r.2) := by
  unfold w_law_B466 at h
  refine i_rs 5 (cf' := (471, [some (.ref 100), some (.ref 0), some (.ref 50), some (.int l3)], [.int (l3 + (1 : Int32)), .ref 100, .ref 0], i_S X M)) rfl ?_
  obtain ⟨g176, h⟩ := i_gE h
  refine i_riald (n := X.1) (cf' := (472, [some (.ref 100), some (.ref 0), some (.ref 50), some (.int l3)], [.int (X.2 (Int32.toNatClampNeg (l3 + (1 : Int32)))), .ref 0], i_S X M)) rfl rfl (by decide) g176 rfl ?_
  refine i_rs 4 (cf' := (476, [some (.ref 100), some (.ref 0), some (.ref 50), some (.int l3)], [.int (l3 + (2 : Int32)), .ref 100, .int (X.2 (Int32.toNatClampNeg (l3 + (1 : Int32)))), .ref 0], i_S X M)) rfl ?_
  obtain ⟨g177, h⟩ := i_gE h
  refine i_riald (n := X.1) (cf' := (477, [some (.ref 100), some (.ref 0), some (.ref 50), some (.int l3)], [.int (X.2 (Int32.toNatClampNeg (l3 + (2 : Int32)))), .int (X.2 (Int32.toNatClampNeg (l3 + (1 : Int32)))), .ref 0], i_S X M)) rfl rfl (by decide) g177 rfl ?_
  obtain ⟨q178, hq178, h⟩ := i_bdE h
  refine i_rcall (k := 74) (as := [.ref 0, .int (X.2 (Int32.toNatClampNeg (l3 + (1 : Int32)))), .int (X.2 (Int32.toNatClampNeg (l3 + (2 : Int32))))]) (cf1 := (480, [some (.ref 100), some (.ref 0), some (.ref 50), some (.int l3)], [], i_S X M)) (cf' := (480, [some (.ref 100), some (.ref 0), some (.ref 50), some (.int l3)], [.int q178.1], i_S X q178.2)) rfl (ok_b_heard (by omega) hq178) rfl ?_
  refine i_rs 5 (cf' := (485, [some (.ref 100), some (.ref 0), some (.ref 50), some (.int l3)], [.int (l3 + (1 : Int32)), .ref 100, .ref 50, .int q178.1], i_S X q178.2)) rfl ?_
  refine i_riald (n := X.1) (cf' := (486, [some (.ref 100), some (.ref 0), some (.ref 50), some (.int l3)], [.int (X.2 (Int32.toNatClampNeg (l3 + (1 : Int32)))), .ref 50, .int q178.1], i_S X q178.2)) rfl rfl (by decide) g176 rfl ?_
  refine i_rs 4 (cf' := (490, [some (.ref 100), some (.ref 0), some (.ref 50), some (.int l3)], [.int (l3 + (2 : Int32)), .ref 100, .int (X.2 (Int32.toNatClampNeg (l3 + (1 : Int32)))), .ref 50, .int q178.1], i_S X q178.2)) rfl ?_
  refine i_riald (n := X.1) (cf' := (491, [some (.ref 100), some (.ref 0), some (.ref 50), some (.int l3)], [.int (X.2 (Int32.toNatClampNeg (l3 + (2 : Int32)))), .int (X.2 (Int32.toNatClampNeg (l3 + (1 : Int32)))), .ref 50, .int q178.1], i_S X q178.2)) rfl rfl (by decide) g177 rfl ?_
  obtain ⟨q179, hq179, h⟩ := i_bdE h
  refine i_rcall (k := 207) (as := [.ref 50, .int (X.2 (Int32.toNatClampNeg (l3 + (1 : Int32)))), .int (X.2 (Int32.toNatClampNeg (l3 + (2 : Int32))))]) (cf1 := (494, [some (.ref 100), some (.ref 0), some (.ref 50), some (.int l3)], [.int q178.1], i_S X q178.2)) (cf' := (494, [some (.ref 100), some (.ref 0), some (.ref 50), some (.int l3)], [.int q179.1, .int q178.1], i_S X q179.2)) rfl (ok_r_heard (by omega) hq179) rfl ?_
  by_cases c180 : q178.1 = q179.1
  · replace h := (if_pos c180).symm.trans h
    refine i_rbT (c := q178.1 = q179.1) (t := 1466) (n := 497) rfl c180 ?_
    refine i_rs 2 (cf' := (18, [some (.ref 100), some (.ref 0), some (.ref 50), some (.int (l3 + (6 : Int32)))], [], i_S X q179.2)) rfl ?_
    refine i_fg (lv' := [some (.ref 100), some (.ref 0), some (.ref 50), some (.int (l3 + (6 : Int32)))]) (And.intro rfl (And.intro rfl (And.intro rfl (And.intro rfl True.intro)))) ?_
    exact hself (l3 + (6 : Int32)) q179.2 _ h
  · replace h := (if_neg c180).symm.trans h
    refine i_rbF (c := q178.1 = q179.1) (t := 1466) (n := 497) rfl c180 ?_
    refine i_rs 1 (cf' := (498, [some (.ref 100), some (.ref 0), some (.ref 50), some (.int l3)], [.int (0 : Int32)], i_S X q179.2)) rfl ?_
    obtain rfl := Option.some.inj h
    exact i_rretZ rfl (Or.inl rfl) rfl
def w_law_B423 (X : Nat × (Nat → Int32)) (self : Int32 → I_M → Option (Int32 × I_M)) (l3 : Int32) (M : I_M) : Option (Int32 × I_M) :=
  i_g (l3 + (1 : Int32)) X.1 (i_g (l3 + (2 : Int32)) X.1 (i_g (l3 + (3 : Int32)) X.1 (Option.bind (b_hum (X.2 (Int32.toNatClampNeg (l3 + (1 : Int32)))) (X.2 (Int32.toNatClampNeg (l3 + (2 : Int32)))) (X.2 (Int32.toNatClampNeg (l3 + (3 : Int32)))) M) (fun q110 => Option.bind (r_hum (X.2 (Int32.toNatClampNeg (l3 + (1 : Int32)))) (X.2 (Int32.toNatClampNeg (l3 + (2 : Int32)))) (X.2 (Int32.toNatClampNeg (l3 + (3 : Int32)))) q110.2) (fun q111 => (if q110.1 = q111.1 then
      self (l3 + (6 : Int32)) q111.2
    else
      some ((0 : Int32), q111.2)))))))
set_option maxHeartbeats 20000000 in
set_option maxRecDepth 100000 in
theorem ok_w_law_B423 {X : Nat × (Nat → Int32)} {d : Nat} {self : Int32 → I_M → Option (Int32 × I_M)} {l3 : Int32} {M : I_M} {r : (Int32 × I_M)} (hself : ∀ (m3 : Int32) (M : I_M) (r : (Int32 × I_M)), self m3 M = some r → I_RnE (I_Ex d) i_c266 (18, [some (.ref 100), some (.ref 0), some (.ref 50), some (.int m3)], [], i_S X M) (some (.int r.1)) (i_S X r.2)) (hd : 81 ≤ d + 1) (h : w_law_B423 X self l3 M = some r) : I_RnE (I_Ex d) i_c266 (423, [some (.ref 100), some (.ref 0), some (.ref 50), some (.int l3)], [], i_S X M) (some (.int r.1)) (i_S X r.2) := by
  unfold w_law_B423 at h
  refine i_rs 5 (cf' := (428, [some (.ref 100), some (.ref 0), some (.ref 50), some (.int l3)], [.int (l3 + (1 : Int32)), .ref 100, .ref 0], i_S X M)) rfl ?_
  obtain ⟨g107, h⟩ := i_gE h
  refine i_riald (n := X.1) (cf' := (429, [some (.ref 100), some (.ref 0), some (.ref 50), some (.int l3)], [.int (X.2 (Int32.toNatClampNeg (l3 + (1 : Int32)))), .ref 0], i_S X M)) rfl rfl (by decide) g107 rfl ?_
  refine i_rs 4 (cf' := (433, [some (.ref 100), some (.ref 0), some (.ref 50), some (.int l3)], [.int (l3 + (2 : Int32)), .ref 100, .int (X.2 (Int32.toNatClampNeg (l3 + (1 : Int32)))), .ref 0], i_S X M)) rfl ?_
  obtain ⟨g108, h⟩ := i_gE h
  refine i_riald (n := X.1) (cf' := (434, [some (.ref 100), some (.ref 0), some (.ref 50), some (.int l3)], [.int (X.2 (Int32.toNatClampNeg (l3 + (2 : Int32)))), .int (X.2 (Int32.toNatClampNeg (l3 + (1 : Int32)))), .ref 0], i_S X M)) rfl rfl (by decide) g108 rfl ?_
  refine i_rs 4 (cf' := (438, [some (.ref 100), some (.ref 0), some (.ref 50), some (.int l3)], [.int (l3 + (3 : Int32)), .ref 100, .int (X.2 (Int32.toNatClampNeg (l3 + (2 : Int32)))), .int (X.2 (Int32.toNatClampNeg (l3 + (1 : Int32)))), .ref 0], i_S X M)) rfl ?_
  obtain ⟨g109, h⟩ := i_gE h
  refine i_riald (n := X.1) (cf' := (439, [some (.ref 100), some (.ref 0), some (.ref 50), some (.int l3)], [.int (X.2 (Int32.toNatClampNeg (l3 + (3 : Int32)))), .int (X.2 (Int32.toNatClampNeg (l3 + (2 : Int32)))), .int (X.2 (Int32.toNatClampNeg (l3 + (1 : Int32)))), .ref 0], i_S X M)) rfl rfl (by decide) g109 rfl ?_
  obtain ⟨q110, hq110, h⟩ := i_bdE h
  refine i_rcall (k := 64) (as := [.ref 0, .int (X.2 (Int32.toNatClampNeg (l3 + (1 : Int32)))), .int (X.2 (Int32.toNatClampNeg (l3 + (2 : Int32)))), .int (X.2 (Int32.toNatClampNeg (l3 + (3 : Int32))))]) (cf1 := (442, [some (.ref 100), some (.ref 0), some (.ref 50), some (.int l3)], [], i_S X M)) (cf' := (442, [some (.ref 100), some (.ref 0), some (.ref 50), some (.int l3)], [.int q110.1], i_S X q110.2)) rfl (ok_b_hum (by omega) hq110) rfl ?_
  refine i_rs 5 (cf' := (447, [some (.ref 100), some (.ref 0), some (.ref 50), some (.int l3)], [.int (l3 + (1 : Int32)), .ref 100, .ref 50, .int q110.1], i_S X q110.2)) rfl ?_
  refine i_riald (n := X.1) (cf' := (448, [some (.ref 100), some (.ref 0), some (.ref 50), some (.int l3)], [.int (X.2 (Int32.toNatClampNeg (l3 + (1 : Int32)))), .ref 50, .int q110.1], i_S X q110.2)) rfl rfl (by decide) g107 rfl ?_
  refine i_rs 4 (cf' := (452, [some (.ref 100), some (.ref 0), some (.ref 50), some (.int l3)], [.int (l3 + (2 : Int32)), .ref 100, .int (X.2 (Int32.toNatClampNeg (l3 + (1 : Int32)))), .ref 50, .int q110.1], i_S X q110.2)) rfl ?_
  refine i_riald (n := X.1) (cf' := (453, [some (.ref 100), some (.ref 0), some (.ref 50), some (.int l3)], [.int (X.2 (Int32.toNatClampNeg (l3 + (2 : Int32)))), .int (X.2 (Int32.toNatClampNeg (l3 + (1 : Int32)))), .ref 50, .int q110.1], i_S X q110.2)) rfl rfl (by decide) g108 rfl ?_
  refine i_rs 4 (cf' := (457, [some (.ref 100), some (.ref 0), some (.ref 50), some (.int l3)], [.int (l3 + (3 : Int32)), .ref 100, .int (X.2 (Int32.toNatClampNeg (l3 + (2 : Int32)))), .int (X.2 (Int32.toNatClampNeg (l3 + (1 : Int32)))), .ref 50, .int q110.1], i_S X q110.2)) rfl ?_
  refine i_riald (n := X.1) (cf' := (458, [some (.ref 100), some (.ref 0), some (.ref 50), some (.int l3)], [.int (X.2 (Int32.toNatClampNeg (l3 + (3 : Int32)))), .int (X.2 (Int32.toNatClampNeg (l3 + (2 : Int32)))), .int (X.2 (Int32.toNatClampNeg (l3 + (1 : Int32)))), .ref 50, .int q110.1], i_S X q110.2)) rfl rfl (by decide) g109 rfl ?_
  obtain ⟨q111, hq111, h⟩ := i_bdE h
  refine i_rcall (k := 202) (as := [.ref 50, .int (X.2 (Int32.toNatClampNeg (l3 + (1 : Int32)))), .int (X.2 (Int32.toNatClampNeg (l3 + (2 : Int32)))), .int (X.2 (Int32.toNatClampNeg (l3 + (3 : Int32))))]) (cf1 := (461, [some (.ref 100), some (.ref 0), some (.ref 50), some (.int l3)], [.int q110.1], i_S X q110.2)) (cf' := (461, [some (.ref 100), some (.ref 0), some (.ref 50), some (.int l3)], [.int q111.1, .int q110.1], i_S X q111.2)) rfl (ok_r_hum (by omega) hq111) rfl ?_
  by_cases c112 : q110.1 = q111.1
  · replace h := (if_pos c112).symm.trans h
    refine i_rbT (c := q110.1 = q111.1) (t := 1466) (n := 464) rfl c112 ?_
    refine i_rs 2 (cf' := (18, [some (.ref 100), some (.ref 0), some (.ref 50), some (.int (l3 + (6 : Int32)))], [], i_S X q111.2)) rfl ?_
    refine i_fg (lv' := [some (.ref 100), some (.ref 0), some (.ref 50), some (.int (l3 + (6 : Int32)))]) (And.intro rfl (And.intro rfl (And.intro rfl (And.intro rfl True.intro)))) ?_
    exact hself (l3 + (6 : Int32)) q111.2 _ h
  · replace h := (if_neg c112).symm.trans h
    refine i_rbF (c := q110.1 = q111.1) (t := 1466) (n := 464) rfl c112 ?_
    refine i_rs 1 (cf' := (465, [some (.ref 100), some (.ref 0), some (.ref 50), some (.int l3)], [.int (0 : Int32)], i_S X q111.2)) rfl ?_
    obtain rfl := Option.some.inj h
    exact i_rretZ rfl (Or.inl rfl) rfl
def w_law_B410 (X : Nat × (Nat → Int32)) (self : Int32 → I_M → Option (Int32 × I_M)) (l3 : Int32) (M : I_M) : Option (Int32 × I_M) :=
  Option.bind (b_law M) (fun q83 => Option.bind (r_law q83.2) (fun q84 => (if q83.1 = q84.1 then
      self (l3 + (6 : Int32)) q84.2
    else
      some ((0 : Int32), q84.2))))
set_option maxHeartbeats 20000000 in
set_option maxRecDepth 100000 in
theorem ok_w_law_B410 {X : Nat × (Nat → Int32)} {d : Nat} {self : Int32 → I_M → Option (Int32 × I_M)} {l3 : Int32} {M : I_M} {r : (Int32 × I_M)} (hself : ∀ (m3 : Int32) (M : I_M) (r : (Int32 × I_M)), self m3 M = some r → I_RnE (I_Ex d) i_c266 (18, [some (.ref 100), some (.ref 0), some (.ref 50), some (.int m3)], [], i_S X M) (some (.int r.1)) (i_S X r.2)) (hd : 81 ≤ d + 1) (h : w_law_B410 X self l3 M = some r) : I_RnE (I_Ex d) i_c266 (410, [some (.ref 100), some (.ref 0), some (.ref 50), some (.int l3)], [], i_S X M) (some (.int r.1)) (i_S X r.2) := by
  unfold w_law_B410 at h
  refine i_rs 1 (cf' := (411, [some (.ref 100), some (.ref 0), some (.ref 50), some (.int l3)], [.ref 0], i_S X M)) rfl ?_
  obtain ⟨q83, hq83, h⟩ := i_bdE h
  refine i_rcall (k := 44) (as := [.ref 0]) (cf1 := (414, [some (.ref 100), some (.ref 0), some (.ref 50), some (.int l3)], [], i_S X M)) (cf' := (414, [some (.ref 100), some (.ref 0), some (.ref 50), some (.int l3)], [.int q83.1], i_S X q83.2)) rfl (ok_b_law (by omega) hq83) rfl ?_
  refine i_rs 1 (cf' := (415, [some (.ref 100), some (.ref 0), some (.ref 50), some (.int l3)], [.ref 50, .int q83.1], i_S X q83.2)) rfl ?_
  obtain ⟨q84, hq84, h⟩ := i_bdE h
  refine i_rcall (k := 190) (as := [.ref 50]) (cf1 := (418, [some (.ref 100), some (.ref 0), some (.ref 50), some (.int l3)], [.int q83.1], i_S X q83.2)) (cf' := (418, [some (.ref 100), some (.ref 0), some (.ref 50), some (.int l3)], [.int q84.1, .int q83.1], i_S X q84.2)) rfl (ok_r_law (by omega) hq84) rfl ?_
  by_cases c85 : q83.1 = q84.1
  · replace h := (if_pos c85).symm.trans h
    refine i_rbT (c := q83.1 = q84.1) (t := 1466) (n := 421) rfl c85 ?_
    refine i_rs 2 (cf' := (18, [some (.ref 100), some (.ref 0), some (.ref 50), some (.int (l3 + (6 : Int32)))], [], i_S X q84.2)) rfl ?_
    refine i_fg (lv' := [some (.ref 100), some (.ref 0), some (.ref 50), some (.int (l3 + (6 : Int32)))]) (And.intro rfl (And.intro rfl (And.intro rfl (And.intro rfl True.intro)))) ?_
    exact hself (l3 + (6 : Int32)) q84.2 _ h
  · replace h := (if_neg c85).symm.trans h
    refine i_rbF (c := q83.1 = q84.1) (t := 1466) (n := 421) rfl c85 ?_
    refine i_rs 1 (cf' := (422, [some (.ref 100), some (.ref 0), some (.ref 50), some (.int l3)], [.int (0 : Int32)], i_S X q84.2)) rfl ?_
    obtain rfl := Option.some.inj h
    exact i_rretZ rfl (Or.inl rfl) rfl
def w_law_B387 (X : Nat × (Nat → Int32)) (self : Int32 → I_M → Option (Int32 × I_M)) (l3 : Int32) (M : I_M) : Option (Int32 × I_M) :=
  i_g (l3 + (1 : Int32)) X.1 (Option.bind (b_feed (X.2 (Int32.toNatClampNeg (l3 + (1 : Int32)))) M) (fun q50 => Option.bind (r_feed (X.2 (Int32.toNatClampNeg (l3 + (1 : Int32)))) q50.2) (fun q51 => (if q50.1 = q51.1 then
      self (l3 + (6 : Int32)) q51.2
    else
      some ((0 : Int32), q51.2)))))
set_option maxHeartbeats 20000000 in
set_option maxRecDepth 100000 in
theorem ok_w_law_B387 {X : Nat × (Nat → Int32)} {d : Nat} {self : Int32 → I_M → Option (Int32 × I_M)} {l3 : Int32} {M : I_M} {r : (Int32 × I_M)} (hself : ∀ (m3 : Int32) (M : I_M) (r : (Int32 × I_M)), self m3 M = some r → I_RnE (I_Ex d) i_c266 (18, [some (.ref 100), some (.ref 0), some (.ref 50), some (.int m3)], [], i_S X M) (some (.int r.1)) (i_S X r.2)) (hd : 81 ≤ d + 1) (h : w_law_B387 X self l3 M = some r) : I_RnE (I_Ex d) i_c266 (387, [some (.ref 100), some (.ref 0), some (.ref 50), some (.int l3)], [], i_S X M) (some (.int r.1)) (i_S X r.2) := by
  unfold w_law_B387 at h
  refine i_rs 5 (cf' := (392, [some (.ref 100), some (.ref 0), some (.ref 50), some (.int l3)], [.int (l3 + (1 : Int32)), .ref 100, .ref 0], i_S X M)) rfl ?_
  obtain ⟨g49, h⟩ := i_gE h
  refine i_riald (n := X.1) (cf' := (393, [some (.ref 100), some (.ref 0), some (.ref 50), some (.int l3)], [.int (X.2 (Int32.toNatClampNeg (l3 + (1 : Int32)))), .ref 0], i_S X M)) rfl rfl (by decide) g49 rfl ?_
  obtain ⟨q50, hq50, h⟩ := i_bdE h
  refine i_rcall (k := 42) (as := [.ref 0, .int (X.2 (Int32.toNatClampNeg (l3 + (1 : Int32))))]) (cf1 := (396, [some (.ref 100), some (.ref 0), some (.ref 50), some (.int l3)], [], i_S X M)) (cf' := (396, [some (.ref 100), some (.ref 0), some (.ref 50), some (.int l3)], [.int q50.1], i_S X q50.2)) rfl (ok_b_feed (by omega) hq50) rfl ?_
  refine i_rs 5 (cf' := (401, [some (.ref 100), some (.ref 0), some (.ref 50), some (.int l3)], [.int (l3 + (1 : Int32)), .ref 100, .ref 50, .int q50.1], i_S X q50.2)) rfl ?_
  refine i_riald (n := X.1) (cf' := (402, [some (.ref 100), some (.ref 0), some (.ref 50), some (.int l3)], [.int (X.2 (Int32.toNatClampNeg (l3 + (1 : Int32)))), .ref 50, .int q50.1], i_S X q50.2)) rfl rfl (by decide) g49 rfl ?_
  obtain ⟨q51, hq51, h⟩ := i_bdE h
  refine i_rcall (k := 189) (as := [.ref 50, .int (X.2 (Int32.toNatClampNeg (l3 + (1 : Int32))))]) (cf1 := (405, [some (.ref 100), some (.ref 0), some (.ref 50), some (.int l3)], [.int q50.1], i_S X q50.2)) (cf' := (405, [some (.ref 100), some (.ref 0), some (.ref 50), some (.int l3)], [.int q51.1, .int q50.1], i_S X q51.2)) rfl (ok_r_feed (by omega) hq51) rfl ?_
  by_cases c52 : q50.1 = q51.1
  · replace h := (if_pos c52).symm.trans h
    refine i_rbT (c := q50.1 = q51.1) (t := 1466) (n := 408) rfl c52 ?_
    refine i_rs 2 (cf' := (18, [some (.ref 100), some (.ref 0), some (.ref 50), some (.int (l3 + (6 : Int32)))], [], i_S X q51.2)) rfl ?_
    refine i_fg (lv' := [some (.ref 100), some (.ref 0), some (.ref 50), some (.int (l3 + (6 : Int32)))]) (And.intro rfl (And.intro rfl (And.intro rfl (And.intro rfl True.intro)))) ?_
    exact hself (l3 + (6 : Int32)) q51.2 _ h
  · replace h := (if_neg c52).symm.trans h
    refine i_rbF (c := q50.1 = q51.1) (t := 1466) (n := 408) rfl c52 ?_
    refine i_rs 1 (cf' := (409, [some (.ref 100), some (.ref 0), some (.ref 50), some (.int l3)], [.int (0 : Int32)], i_S X q51.2)) rfl ?_
    obtain rfl := Option.some.inj h
    exact i_rretZ rfl (Or.inl rfl) rfl
def w_law_B354 (X : Nat × (Nat → Int32)) (self : Int32 → I_M → Option (Int32 × I_M)) (l3 : Int32) (M : I_M) : Option (Int32 × I_M) :=
  i_g (l3 + (1 : Int32)) X.1 (i_g (l3 + (2 : Int32)) X.1 (Option.bind (b_of (X.2 (Int32.toNatClampNeg (l3 + (1 : Int32)))) (X.2 (Int32.toNatClampNeg (l3 + (2 : Int32)))) M) (fun q197 => Option.bind (r_of (X.2 (Int32.toNatClampNeg (l3 + (1 : Int32)))) (X.2 (Int32.toNatClampNeg (l3 + (2 : Int32)))) q197.2) (fun q198 => (if q197.1 = q198.1 then
      self (l3 + (6 : Int32)) q198.2
    else
      some ((0 : Int32), q198.2))))))
set_option maxHeartbeats 20000000 in
set_option maxRecDepth 100000 in
theorem ok_w_law_B354 {X : Nat × (Nat → Int32)} {d : Nat} {self : Int32 → I_M → Option (Int32 × I_M)} {l3 : Int32} {M : I_M} {r : (Int32 × I_M)} (hself : ∀ (m3 : Int32) (M : I_M) (r : (Int32 × I_M)), self m3 M = some r → I_RnE (I_Ex d) i_c266 (18, [some (.ref 100), some (.ref 0), some (.ref 50), some (.int m3)], [], i_S X M) (some (.int r.1)) (i_S X r.2)) (hd : 81 ≤ d + 1) (h : w_law_B354 X self l3 M = some r) : I_RnE (I_Ex d) i_c266 (354, [some (.ref 100), some (.ref 0), some (.ref 50), some (.int l3)], [], i_S X M) (some (.int r.1)) (i_S X r.2) := by
  unfold w_law_B354 at h
  refine i_rs 5 (cf' := (359, [some (.ref 100), some (.ref 0), some (.ref 50), some (.int l3)], [.int (l3 + (1 : Int32)), .ref 100, .ref 0], i_S X M)) rfl ?_
  obtain ⟨g195, h⟩ := i_gE h
  refine i_riald (n := X.1) (cf' := (360, [some (.ref 100), some (.ref 0), some (.ref 50), some (.int l3)], [.int (X.2 (Int32.toNatClampNeg (l3 + (1 : Int32)))), .ref 0], i_S X M)) rfl rfl (by decide) g195 rfl ?_
  refine i_rs 4 (cf' := (364, [some (.ref 100), some (.ref 0), some (.ref 50), some (.int l3)], [.int (l3 + (2 : Int32)), .ref 100, .int (X.2 (Int32.toNatClampNeg (l3 + (1 : Int32)))), .ref 0], i_S X M)) rfl ?_
  obtain ⟨g196, h⟩ := i_gE h
  refine i_riald (n := X.1) (cf' := (365, [some (.ref 100), some (.ref 0), some (.ref 50), some (.int l3)], [.int (X.2 (Int32.toNatClampNeg (l3 + (2 : Int32)))), .int (X.2 (Int32.toNatClampNeg (l3 + (1 : Int32)))), .ref 0], i_S X M)) rfl rfl (by decide) g196 rfl ?_
  obtain ⟨q197, hq197, h⟩ := i_bdE h
  refine i_rcall (k := 35) (as := [.ref 0, .int (X.2 (Int32.toNatClampNeg (l3 + (1 : Int32)))), .int (X.2 (Int32.toNatClampNeg (l3 + (2 : Int32))))]) (cf1 := (368, [some (.ref 100), some (.ref 0), some (.ref 50), some (.int l3)], [], i_S X M)) (cf' := (368, [some (.ref 100), some (.ref 0), some (.ref 50), some (.int l3)], [.int q197.1], i_S X q197.2)) rfl (ok_b_of (by omega) hq197) rfl ?_
  refine i_rs 5 (cf' := (373, [some (.ref 100), some (.ref 0), some (.ref 50), some (.int l3)], [.int (l3 + (1 : Int32)), .ref 100, .ref 50, .int q197.1], i_S X q197.2)) rfl ?_
  refine i_riald (n := X.1) (cf' := (374, [some (.ref 100), some (.ref 0), some (.ref 50), some (.int l3)], [.int (X.2 (Int32.toNatClampNeg (l3 + (1 : Int32)))), .ref 50, .int q197.1], i_S X q197.2)) rfl rfl (by decide) g195 rfl ?_
  refine i_rs 4 (cf' := (378, [some (.ref 100), some (.ref 0), some (.ref 50), some (.int l3)], [.int (l3 + (2 : Int32)), .ref 100, .int (X.2 (Int32.toNatClampNeg (l3 + (1 : Int32)))), .ref 50, .int q197.1], i_S X q197.2)) rfl ?_
  refine i_riald (n := X.1) (cf' := (379, [some (.ref 100), some (.ref 0), some (.ref 50), some (.int l3)], [.int (X.2 (Int32.toNatClampNeg (l3 + (2 : Int32)))), .int (X.2 (Int32.toNatClampNeg (l3 + (1 : Int32)))), .ref 50, .int q197.1], i_S X q197.2)) rfl rfl (by decide) g196 rfl ?_
  obtain ⟨q198, hq198, h⟩ := i_bdE h
  refine i_rcall (k := 186) (as := [.ref 50, .int (X.2 (Int32.toNatClampNeg (l3 + (1 : Int32)))), .int (X.2 (Int32.toNatClampNeg (l3 + (2 : Int32))))]) (cf1 := (382, [some (.ref 100), some (.ref 0), some (.ref 50), some (.int l3)], [.int q197.1], i_S X q197.2)) (cf' := (382, [some (.ref 100), some (.ref 0), some (.ref 50), some (.int l3)], [.int q198.1, .int q197.1], i_S X q198.2)) rfl (ok_r_of (by omega) hq198) rfl ?_
  by_cases c199 : q197.1 = q198.1
  · replace h := (if_pos c199).symm.trans h
    refine i_rbT (c := q197.1 = q198.1) (t := 1466) (n := 385) rfl c199 ?_
    refine i_rs 2 (cf' := (18, [some (.ref 100), some (.ref 0), some (.ref 50), some (.int (l3 + (6 : Int32)))], [], i_S X q198.2)) rfl ?_
    refine i_fg (lv' := [some (.ref 100), some (.ref 0), some (.ref 50), some (.int (l3 + (6 : Int32)))]) (And.intro rfl (And.intro rfl (And.intro rfl (And.intro rfl True.intro)))) ?_
    exact hself (l3 + (6 : Int32)) q198.2 _ h
  · replace h := (if_neg c199).symm.trans h
    refine i_rbF (c := q197.1 = q198.1) (t := 1466) (n := 385) rfl c199 ?_
    refine i_rs 1 (cf' := (386, [some (.ref 100), some (.ref 0), some (.ref 50), some (.int l3)], [.int (0 : Int32)], i_S X q198.2)) rfl ?_
    obtain rfl := Option.some.inj h
    exact i_rretZ rfl (Or.inl rfl) rfl
def w_law_B311 (X : Nat × (Nat → Int32)) (self : Int32 → I_M → Option (Int32 × I_M)) (l3 : Int32) (M : I_M) : Option (Int32 × I_M) :=
  i_g (l3 + (1 : Int32)) X.1 (i_g (l3 + (2 : Int32)) X.1 (i_g (l3 + (3 : Int32)) X.1 (Option.bind (b_mend (X.2 (Int32.toNatClampNeg (l3 + (1 : Int32)))) (X.2 (Int32.toNatClampNeg (l3 + (2 : Int32)))) (X.2 (Int32.toNatClampNeg (l3 + (3 : Int32)))) M) (fun q144 => Option.bind (r_mend (X.2 (Int32.toNatClampNeg (l3 + (1 : Int32)))) (X.2 (Int32.toNatClampNeg (l3 + (2 : Int32)))) (X.2 (Int32.toNatClampNeg (l3 + (3 : Int32)))) q144.2) (fun q145 => (if q144.1 = q145.1 then
      self (l3 + (6 : Int32)) q145.2
    else
      some ((0 : Int32), q145.2)))))))
set_option maxHeartbeats 20000000 in
set_option maxRecDepth 100000 in
theorem ok_w_law_B311 {X : Nat × (Nat → Int32)} {d : Nat} {self : Int32 → I_M → Option (Int32 × I_M)} {l3 : Int32} {M : I_M} {r : (Int32 × I_M)} (hself : ∀ (m3 : Int32) (M : I_M) (r : (Int32 × I_M)), self m3 M = some r → I_RnE (I_Ex d) i_c266 (18, [some (.ref 100), some (.ref 0), some (.ref 50), some (.int m3)], [], i_S X M) (some (.int r.1)) (i_S X r.2)) (hd : 81 ≤ d + 1) (h : w_law_B311 X self l3 M = some r) : I_RnE (I_Ex d) i_c266 (311, [some (.ref 100), some (.ref 0), some (.ref 50), some (.int l3)], [], i_S X M) (some (.int r.1)) (i_S X r.2) := by
  unfold w_law_B311 at h
  refine i_rs 5 (cf' := (316, [some (.ref 100), some (.ref 0), some (.ref 50), some (.int l3)], [.int (l3 + (1 : Int32)), .ref 100, .ref 0], i_S X M)) rfl ?_
  obtain ⟨g141, h⟩ := i_gE h
  refine i_riald (n := X.1) (cf' := (317, [some (.ref 100), some (.ref 0), some (.ref 50), some (.int l3)], [.int (X.2 (Int32.toNatClampNeg (l3 + (1 : Int32)))), .ref 0], i_S X M)) rfl rfl (by decide) g141 rfl ?_
  refine i_rs 4 (cf' := (321, [some (.ref 100), some (.ref 0), some (.ref 50), some (.int l3)], [.int (l3 + (2 : Int32)), .ref 100, .int (X.2 (Int32.toNatClampNeg (l3 + (1 : Int32)))), .ref 0], i_S X M)) rfl ?_
  obtain ⟨g142, h⟩ := i_gE h
  refine i_riald (n := X.1) (cf' := (322, [some (.ref 100), some (.ref 0), some (.ref 50), some (.int l3)], [.int (X.2 (Int32.toNatClampNeg (l3 + (2 : Int32)))), .int (X.2 (Int32.toNatClampNeg (l3 + (1 : Int32)))), .ref 0], i_S X M)) rfl rfl (by decide) g142 rfl ?_
  refine i_rs 4 (cf' := (326, [some (.ref 100), some (.ref 0), some (.ref 50), some (.int l3)], [.int (l3 + (3 : Int32)), .ref 100, .int (X.2 (Int32.toNatClampNeg (l3 + (2 : Int32)))), .int (X.2 (Int32.toNatClampNeg (l3 + (1 : Int32)))), .ref 0], i_S X M)) rfl ?_
  obtain ⟨g143, h⟩ := i_gE h
  refine i_riald (n := X.1) (cf' := (327, [some (.ref 100), some (.ref 0), some (.ref 50), some (.int l3)], [.int (X.2 (Int32.toNatClampNeg (l3 + (3 : Int32)))), .int (X.2 (Int32.toNatClampNeg (l3 + (2 : Int32)))), .int (X.2 (Int32.toNatClampNeg (l3 + (1 : Int32)))), .ref 0], i_S X M)) rfl rfl (by decide) g143 rfl ?_
  obtain ⟨q144, hq144, h⟩ := i_bdE h
  refine i_rcall (k := 28) (as := [.ref 0, .int (X.2 (Int32.toNatClampNeg (l3 + (1 : Int32)))), .int (X.2 (Int32.toNatClampNeg (l3 + (2 : Int32)))), .int (X.2 (Int32.toNatClampNeg (l3 + (3 : Int32))))]) (cf1 := (330, [some (.ref 100), some (.ref 0), some (.ref 50), some (.int l3)], [], i_S X M)) (cf' := (330, [some (.ref 100), some (.ref 0), some (.ref 50), some (.int l3)], [.int q144.1], i_S X q144.2)) rfl (ok_b_mend (by omega) hq144) rfl ?_
  refine i_rs 5 (cf' := (335, [some (.ref 100), some (.ref 0), some (.ref 50), some (.int l3)], [.int (l3 + (1 : Int32)), .ref 100, .ref 50, .int q144.1], i_S X q144.2)) rfl ?_
  refine i_riald (n := X.1) (cf' := (336, [some (.ref 100), some (.ref 0), some (.ref 50), some (.int l3)], [.int (X.2 (Int32.toNatClampNeg (l3 + (1 : Int32)))), .ref 50, .int q144.1], i_S X q144.2)) rfl rfl (by decide) g141 rfl ?_
  refine i_rs 4 (cf' := (340, [some (.ref 100), some (.ref 0), some (.ref 50), some (.int l3)], [.int (l3 + (2 : Int32)), .ref 100, .int (X.2 (Int32.toNatClampNeg (l3 + (1 : Int32)))), .ref 50, .int q144.1], i_S X q144.2)) rfl ?_
  refine i_riald (n := X.1) (cf' := (341, [some (.ref 100), some (.ref 0), some (.ref 50), some (.int l3)], [.int (X.2 (Int32.toNatClampNeg (l3 + (2 : Int32)))), .int (X.2 (Int32.toNatClampNeg (l3 + (1 : Int32)))), .ref 50, .int q144.1], i_S X q144.2)) rfl rfl (by decide) g142 rfl ?_
  refine i_rs 4 (cf' := (345, [some (.ref 100), some (.ref 0), some (.ref 50), some (.int l3)], [.int (l3 + (3 : Int32)), .ref 100, .int (X.2 (Int32.toNatClampNeg (l3 + (2 : Int32)))), .int (X.2 (Int32.toNatClampNeg (l3 + (1 : Int32)))), .ref 50, .int q144.1], i_S X q144.2)) rfl ?_
  refine i_riald (n := X.1) (cf' := (346, [some (.ref 100), some (.ref 0), some (.ref 50), some (.int l3)], [.int (X.2 (Int32.toNatClampNeg (l3 + (3 : Int32)))), .int (X.2 (Int32.toNatClampNeg (l3 + (2 : Int32)))), .int (X.2 (Int32.toNatClampNeg (l3 + (1 : Int32)))), .ref 50, .int q144.1], i_S X q144.2)) rfl rfl (by decide) g143 rfl ?_
  obtain ⟨q145, hq145, h⟩ := i_bdE h
  refine i_rcall (k := 182) (as := [.ref 50, .int (X.2 (Int32.toNatClampNeg (l3 + (1 : Int32)))), .int (X.2 (Int32.toNatClampNeg (l3 + (2 : Int32)))), .int (X.2 (Int32.toNatClampNeg (l3 + (3 : Int32))))]) (cf1 := (349, [some (.ref 100), some (.ref 0), some (.ref 50), some (.int l3)], [.int q144.1], i_S X q144.2)) (cf' := (349, [some (.ref 100), some (.ref 0), some (.ref 50), some (.int l3)], [.int q145.1, .int q144.1], i_S X q145.2)) rfl (ok_r_mend (by omega) hq145) rfl ?_
  by_cases c146 : q144.1 = q145.1
  · replace h := (if_pos c146).symm.trans h
    refine i_rbT (c := q144.1 = q145.1) (t := 1466) (n := 352) rfl c146 ?_
    refine i_rs 2 (cf' := (18, [some (.ref 100), some (.ref 0), some (.ref 50), some (.int (l3 + (6 : Int32)))], [], i_S X q145.2)) rfl ?_
    refine i_fg (lv' := [some (.ref 100), some (.ref 0), some (.ref 50), some (.int (l3 + (6 : Int32)))]) (And.intro rfl (And.intro rfl (And.intro rfl (And.intro rfl True.intro)))) ?_
    exact hself (l3 + (6 : Int32)) q145.2 _ h
  · replace h := (if_neg c146).symm.trans h
    refine i_rbF (c := q144.1 = q145.1) (t := 1466) (n := 352) rfl c146 ?_
    refine i_rs 1 (cf' := (353, [some (.ref 100), some (.ref 0), some (.ref 50), some (.int l3)], [.int (0 : Int32)], i_S X q145.2)) rfl ?_
    obtain rfl := Option.some.inj h
    exact i_rretZ rfl (Or.inl rfl) rfl
def w_law_B268 (X : Nat × (Nat → Int32)) (self : Int32 → I_M → Option (Int32 × I_M)) (l3 : Int32) (M : I_M) : Option (Int32 × I_M) :=
  i_g (l3 + (1 : Int32)) X.1 (i_g (l3 + (2 : Int32)) X.1 (i_g (l3 + (3 : Int32)) X.1 (Option.bind (b_bells (X.2 (Int32.toNatClampNeg (l3 + (1 : Int32)))) (X.2 (Int32.toNatClampNeg (l3 + (2 : Int32)))) (X.2 (Int32.toNatClampNeg (l3 + (3 : Int32)))) M) (fun q65 => Option.bind (r_bells (X.2 (Int32.toNatClampNeg (l3 + (1 : Int32)))) (X.2 (Int32.toNatClampNeg (l3 + (2 : Int32)))) (X.2 (Int32.toNatClampNeg (l3 + (3 : Int32)))) q65.2) (fun q66 => (if q65.1 = q66.1 then
      self (l3 + (6 : Int32)) q66.2
    else
      some ((0 : Int32), q66.2)))))))
set_option maxHeartbeats 20000000 in
set_option maxRecDepth 100000 in
theorem ok_w_law_B268 {X : Nat × (Nat → Int32)} {d : Nat} {self : Int32 → I_M → Option (Int32 × I_M)} {l3 : Int32} {M : I_M} {r : (Int32 × I_M)} (hself : ∀ (m3 : Int32) (M : I_M) (r : (Int32 × I_M)), self m3 M = some r → I_RnE (I_Ex d) i_c266 (18, [some (.ref 100), some (.ref 0), some (.ref 50), some (.int m3)], [], i_S X M) (some (.int r.1)) (i_S X r.2)) (hd : 81 ≤ d + 1) (h : w_law_B268 X self l3 M = some r) : I_RnE (I_Ex d) i_c266 (268, [some (.ref 100), some (.ref 0), some (.ref 50), some (.int l3)], [], i_S X M) (some (.int r.1)) (i_S X r.2) := by
  unfold w_law_B268 at h
  refine i_rs 5 (cf' := (273, [some (.ref 100), some (.ref 0), some (.ref 50), some (.int l3)], [.int (l3 + (1 : Int32)), .ref 100, .ref 0], i_S X M)) rfl ?_
  obtain ⟨g62, h⟩ := i_gE h
  refine i_riald (n := X.1) (cf' := (274, [some (.ref 100), some (.ref 0), some (.ref 50), some (.int l3)], [.int (X.2 (Int32.toNatClampNeg (l3 + (1 : Int32)))), .ref 0], i_S X M)) rfl rfl (by decide) g62 rfl ?_
  refine i_rs 4 (cf' := (278, [some (.ref 100), some (.ref 0), some (.ref 50), some (.int l3)], [.int (l3 + (2 : Int32)), .ref 100, .int (X.2 (Int32.toNatClampNeg (l3 + (1 : Int32)))), .ref 0], i_S X M)) rfl ?_
  obtain ⟨g63, h⟩ := i_gE h
  refine i_riald (n := X.1) (cf' := (279, [some (.ref 100), some (.ref 0), some (.ref 50), some (.int l3)], [.int (X.2 (Int32.toNatClampNeg (l3 + (2 : Int32)))), .int (X.2 (Int32.toNatClampNeg (l3 + (1 : Int32)))), .ref 0], i_S X M)) rfl rfl (by decide) g63 rfl ?_
  refine i_rs 4 (cf' := (283, [some (.ref 100), some (.ref 0), some (.ref 50), some (.int l3)], [.int (l3 + (3 : Int32)), .ref 100, .int (X.2 (Int32.toNatClampNeg (l3 + (2 : Int32)))), .int (X.2 (Int32.toNatClampNeg (l3 + (1 : Int32)))), .ref 0], i_S X M)) rfl ?_
  obtain ⟨g64, h⟩ := i_gE h
  refine i_riald (n := X.1) (cf' := (284, [some (.ref 100), some (.ref 0), some (.ref 50), some (.int l3)], [.int (X.2 (Int32.toNatClampNeg (l3 + (3 : Int32)))), .int (X.2 (Int32.toNatClampNeg (l3 + (2 : Int32)))), .int (X.2 (Int32.toNatClampNeg (l3 + (1 : Int32)))), .ref 0], i_S X M)) rfl rfl (by decide) g64 rfl ?_
  obtain ⟨q65, hq65, h⟩ := i_bdE h
  refine i_rcall (k := 23) (as := [.ref 0, .int (X.2 (Int32.toNatClampNeg (l3 + (1 : Int32)))), .int (X.2 (Int32.toNatClampNeg (l3 + (2 : Int32)))), .int (X.2 (Int32.toNatClampNeg (l3 + (3 : Int32))))]) (cf1 := (287, [some (.ref 100), some (.ref 0), some (.ref 50), some (.int l3)], [], i_S X M)) (cf' := (287, [some (.ref 100), some (.ref 0), some (.ref 50), some (.int l3)], [.int q65.1], i_S X q65.2)) rfl (ok_b_bells (by omega) hq65) rfl ?_
  refine i_rs 5 (cf' := (292, [some (.ref 100), some (.ref 0), some (.ref 50), some (.int l3)], [.int (l3 + (1 : Int32)), .ref 100, .ref 50, .int q65.1], i_S X q65.2)) rfl ?_
  refine i_riald (n := X.1) (cf' := (293, [some (.ref 100), some (.ref 0), some (.ref 50), some (.int l3)], [.int (X.2 (Int32.toNatClampNeg (l3 + (1 : Int32)))), .ref 50, .int q65.1], i_S X q65.2)) rfl rfl (by decide) g62 rfl ?_
  refine i_rs 4 (cf' := (297, [some (.ref 100), some (.ref 0), some (.ref 50), some (.int l3)], [.int (l3 + (2 : Int32)), .ref 100, .int (X.2 (Int32.toNatClampNeg (l3 + (1 : Int32)))), .ref 50, .int q65.1], i_S X q65.2)) rfl ?_
  refine i_riald (n := X.1) (cf' := (298, [some (.ref 100), some (.ref 0), some (.ref 50), some (.int l3)], [.int (X.2 (Int32.toNatClampNeg (l3 + (2 : Int32)))), .int (X.2 (Int32.toNatClampNeg (l3 + (1 : Int32)))), .ref 50, .int q65.1], i_S X q65.2)) rfl rfl (by decide) g63 rfl ?_
  refine i_rs 4 (cf' := (302, [some (.ref 100), some (.ref 0), some (.ref 50), some (.int l3)], [.int (l3 + (3 : Int32)), .ref 100, .int (X.2 (Int32.toNatClampNeg (l3 + (2 : Int32)))), .int (X.2 (Int32.toNatClampNeg (l3 + (1 : Int32)))), .ref 50, .int q65.1], i_S X q65.2)) rfl ?_
  refine i_riald (n := X.1) (cf' := (303, [some (.ref 100), some (.ref 0), some (.ref 50), some (.int l3)], [.int (X.2 (Int32.toNatClampNeg (l3 + (3 : Int32)))), .int (X.2 (Int32.toNatClampNeg (l3 + (2 : Int32)))), .int (X.2 (Int32.toNatClampNeg (l3 + (1 : Int32)))), .ref 50, .int q65.1], i_S X q65.2)) rfl rfl (by decide) g64 rfl ?_
  obtain ⟨q66, hq66, h⟩ := i_bdE h
  refine i_rcall (k := 180) (as := [.ref 50, .int (X.2 (Int32.toNatClampNeg (l3 + (1 : Int32)))), .int (X.2 (Int32.toNatClampNeg (l3 + (2 : Int32)))), .int (X.2 (Int32.toNatClampNeg (l3 + (3 : Int32))))]) (cf1 := (306, [some (.ref 100), some (.ref 0), some (.ref 50), some (.int l3)], [.int q65.1], i_S X q65.2)) (cf' := (306, [some (.ref 100), some (.ref 0), some (.ref 50), some (.int l3)], [.int q66.1, .int q65.1], i_S X q66.2)) rfl (ok_r_bells (by omega) hq66) rfl ?_
  by_cases c67 : q65.1 = q66.1
  · replace h := (if_pos c67).symm.trans h
    refine i_rbT (c := q65.1 = q66.1) (t := 1466) (n := 309) rfl c67 ?_
    refine i_rs 2 (cf' := (18, [some (.ref 100), some (.ref 0), some (.ref 50), some (.int (l3 + (6 : Int32)))], [], i_S X q66.2)) rfl ?_
    refine i_fg (lv' := [some (.ref 100), some (.ref 0), some (.ref 50), some (.int (l3 + (6 : Int32)))]) (And.intro rfl (And.intro rfl (And.intro rfl (And.intro rfl True.intro)))) ?_
    exact hself (l3 + (6 : Int32)) q66.2 _ h
  · replace h := (if_neg c67).symm.trans h
    refine i_rbF (c := q65.1 = q66.1) (t := 1466) (n := 309) rfl c67 ?_
    refine i_rs 1 (cf' := (310, [some (.ref 100), some (.ref 0), some (.ref 50), some (.int l3)], [.int (0 : Int32)], i_S X q66.2)) rfl ?_
    obtain rfl := Option.some.inj h
    exact i_rretZ rfl (Or.inl rfl) rfl
def w_law_B235 (X : Nat × (Nat → Int32)) (self : Int32 → I_M → Option (Int32 × I_M)) (l3 : Int32) (M : I_M) : Option (Int32 × I_M) :=
  i_g (l3 + (1 : Int32)) X.1 (i_g (l3 + (2 : Int32)) X.1 (Option.bind (b_bell (X.2 (Int32.toNatClampNeg (l3 + (1 : Int32)))) (X.2 (Int32.toNatClampNeg (l3 + (2 : Int32)))) M) (fun q211 => Option.bind (r_bell (X.2 (Int32.toNatClampNeg (l3 + (1 : Int32)))) (X.2 (Int32.toNatClampNeg (l3 + (2 : Int32)))) q211.2) (fun q212 => (if q211.1 = q212.1 then
      self (l3 + (6 : Int32)) q212.2
    else
      some ((0 : Int32), q212.2))))))
set_option maxHeartbeats 20000000 in
set_option maxRecDepth 100000 in
theorem ok_w_law_B235 {X : Nat × (Nat → Int32)} {d : Nat} {self : Int32 → I_M → Option (Int32 × I_M)} {l3 : Int32} {M : I_M} {r : (Int32 × I_M)} (hself : ∀ (m3 : Int32) (M : I_M) (r : (Int32 × I_M)), self m3 M = some r → I_RnE (I_Ex d) i_c266 (18, [some (.ref 100), some (.ref 0), some (.ref 50), some (.int m3)], [], i_S X M) (some (.int r.1)) (i_S X r.2)) (hd : 81 ≤ d + 1) (h : w_law_B235 X self l3 M = some r) : I_RnE (I_Ex d) i_c266 (235, [some (.ref 100), some (.ref 0), some (.ref 50), some (.int l3)], [], i_S X M) (some (.int r.1)) (i_S X r.2) := by
  unfold w_law_B235 at h
  refine i_rs 5 (cf' := (240, [some (.ref 100), some (.ref 0), some (.ref 50), some (.int l3)], [.int (l3 + (1 : Int32)), .ref 100, .ref 0], i_S X M)) rfl ?_
  obtain ⟨g209, h⟩ := i_gE h
  refine i_riald (n := X.1) (cf' := (241, [some (.ref 100), some (.ref 0), some (.ref 50), some (.int l3)], [.int (X.2 (Int32.toNatClampNeg (l3 + (1 : Int32)))), .ref 0], i_S X M)) rfl rfl (by decide) g209 rfl ?_
  refine i_rs 4 (cf' := (245, [some (.ref 100), some (.ref 0), some (.ref 50), some (.int l3)], [.int (l3 + (2 : Int32)), .ref 100, .int (X.2 (Int32.toNatClampNeg (l3 + (1 : Int32)))), .ref 0], i_S X M)) rfl ?_
  obtain ⟨g210, h⟩ := i_gE h
  refine i_riald (n := X.1) (cf' := (246, [some (.ref 100), some (.ref 0), some (.ref 50), some (.int l3)], [.int (X.2 (Int32.toNatClampNeg (l3 + (2 : Int32)))), .int (X.2 (Int32.toNatClampNeg (l3 + (1 : Int32)))), .ref 0], i_S X M)) rfl rfl (by decide) g210 rfl ?_
  obtain ⟨q211, hq211, h⟩ := i_bdE h
  refine i_rcall (k := 18) (as := [.ref 0, .int (X.2 (Int32.toNatClampNeg (l3 + (1 : Int32)))), .int (X.2 (Int32.toNatClampNeg (l3 + (2 : Int32))))]) (cf1 := (249, [some (.ref 100), some (.ref 0), some (.ref 50), some (.int l3)], [], i_S X M)) (cf' := (249, [some (.ref 100), some (.ref 0), some (.ref 50), some (.int l3)], [.int q211.1], i_S X q211.2)) rfl (ok_b_bell (by omega) hq211) rfl ?_
  refine i_rs 5 (cf' := (254, [some (.ref 100), some (.ref 0), some (.ref 50), some (.int l3)], [.int (l3 + (1 : Int32)), .ref 100, .ref 50, .int q211.1], i_S X q211.2)) rfl ?_
  refine i_riald (n := X.1) (cf' := (255, [some (.ref 100), some (.ref 0), some (.ref 50), some (.int l3)], [.int (X.2 (Int32.toNatClampNeg (l3 + (1 : Int32)))), .ref 50, .int q211.1], i_S X q211.2)) rfl rfl (by decide) g209 rfl ?_
  refine i_rs 4 (cf' := (259, [some (.ref 100), some (.ref 0), some (.ref 50), some (.int l3)], [.int (l3 + (2 : Int32)), .ref 100, .int (X.2 (Int32.toNatClampNeg (l3 + (1 : Int32)))), .ref 50, .int q211.1], i_S X q211.2)) rfl ?_
  refine i_riald (n := X.1) (cf' := (260, [some (.ref 100), some (.ref 0), some (.ref 50), some (.int l3)], [.int (X.2 (Int32.toNatClampNeg (l3 + (2 : Int32)))), .int (X.2 (Int32.toNatClampNeg (l3 + (1 : Int32)))), .ref 50, .int q211.1], i_S X q211.2)) rfl rfl (by decide) g210 rfl ?_
  obtain ⟨q212, hq212, h⟩ := i_bdE h
  refine i_rcall (k := 176) (as := [.ref 50, .int (X.2 (Int32.toNatClampNeg (l3 + (1 : Int32)))), .int (X.2 (Int32.toNatClampNeg (l3 + (2 : Int32))))]) (cf1 := (263, [some (.ref 100), some (.ref 0), some (.ref 50), some (.int l3)], [.int q211.1], i_S X q211.2)) (cf' := (263, [some (.ref 100), some (.ref 0), some (.ref 50), some (.int l3)], [.int q212.1, .int q211.1], i_S X q212.2)) rfl (ok_r_bell (by omega) hq212) rfl ?_
  by_cases c213 : q211.1 = q212.1
  · replace h := (if_pos c213).symm.trans h
    refine i_rbT (c := q211.1 = q212.1) (t := 1466) (n := 266) rfl c213 ?_
    refine i_rs 2 (cf' := (18, [some (.ref 100), some (.ref 0), some (.ref 50), some (.int (l3 + (6 : Int32)))], [], i_S X q212.2)) rfl ?_
    refine i_fg (lv' := [some (.ref 100), some (.ref 0), some (.ref 50), some (.int (l3 + (6 : Int32)))]) (And.intro rfl (And.intro rfl (And.intro rfl (And.intro rfl True.intro)))) ?_
    exact hself (l3 + (6 : Int32)) q212.2 _ h
  · replace h := (if_neg c213).symm.trans h
    refine i_rbF (c := q211.1 = q212.1) (t := 1466) (n := 266) rfl c213 ?_
    refine i_rs 1 (cf' := (267, [some (.ref 100), some (.ref 0), some (.ref 50), some (.int l3)], [.int (0 : Int32)], i_S X q212.2)) rfl ?_
    obtain rfl := Option.some.inj h
    exact i_rretZ rfl (Or.inl rfl) rfl
def w_law_B212 (X : Nat × (Nat → Int32)) (self : Int32 → I_M → Option (Int32 × I_M)) (l3 : Int32) (M : I_M) : Option (Int32 × I_M) :=
  i_g (l3 + (1 : Int32)) X.1 (Option.bind (b_land (X.2 (Int32.toNatClampNeg (l3 + (1 : Int32)))) M) (fun q182 => Option.bind (r_land (X.2 (Int32.toNatClampNeg (l3 + (1 : Int32)))) q182.2) (fun q183 => (if q182.1 = q183.1 then
      self (l3 + (6 : Int32)) q183.2
    else
      some ((0 : Int32), q183.2)))))
set_option maxHeartbeats 20000000 in
set_option maxRecDepth 100000 in
theorem ok_w_law_B212 {X : Nat × (Nat → Int32)} {d : Nat} {self : Int32 → I_M → Option (Int32 × I_M)} {l3 : Int32} {M : I_M} {r : (Int32 × I_M)} (hself : ∀ (m3 : Int32) (M : I_M) (r : (Int32 × I_M)), self m3 M = some r → I_RnE (I_Ex d) i_c266 (18, [some (.ref 100), some (.ref 0), some (.ref 50), some (.int m3)], [], i_S X M) (some (.int r.1)) (i_S X r.2)) (hd : 81 ≤ d + 1) (h : w_law_B212 X self l3 M = some r) : I_RnE (I_Ex d) i_c266 (212, [some (.ref 100), some (.ref 0), some (.ref 50), some (.int l3)], [], i_S X M) (some (.int r.1)) (i_S X r.2) := by
  unfold w_law_B212 at h
  refine i_rs 5 (cf' := (217, [some (.ref 100), some (.ref 0), some (.ref 50), some (.int l3)], [.int (l3 + (1 : Int32)), .ref 100, .ref 0], i_S X M)) rfl ?_
  obtain ⟨g181, h⟩ := i_gE h
  refine i_riald (n := X.1) (cf' := (218, [some (.ref 100), some (.ref 0), some (.ref 50), some (.int l3)], [.int (X.2 (Int32.toNatClampNeg (l3 + (1 : Int32)))), .ref 0], i_S X M)) rfl rfl (by decide) g181 rfl ?_
  obtain ⟨q182, hq182, h⟩ := i_bdE h
  refine i_rcall (k := 14) (as := [.ref 0, .int (X.2 (Int32.toNatClampNeg (l3 + (1 : Int32))))]) (cf1 := (221, [some (.ref 100), some (.ref 0), some (.ref 50), some (.int l3)], [], i_S X M)) (cf' := (221, [some (.ref 100), some (.ref 0), some (.ref 50), some (.int l3)], [.int q182.1], i_S X q182.2)) rfl (ok_b_land (by omega) hq182) rfl ?_
  refine i_rs 5 (cf' := (226, [some (.ref 100), some (.ref 0), some (.ref 50), some (.int l3)], [.int (l3 + (1 : Int32)), .ref 100, .ref 50, .int q182.1], i_S X q182.2)) rfl ?_
  refine i_riald (n := X.1) (cf' := (227, [some (.ref 100), some (.ref 0), some (.ref 50), some (.int l3)], [.int (X.2 (Int32.toNatClampNeg (l3 + (1 : Int32)))), .ref 50, .int q182.1], i_S X q182.2)) rfl rfl (by decide) g181 rfl ?_
  obtain ⟨q183, hq183, h⟩ := i_bdE h
  refine i_rcall (k := 174) (as := [.ref 50, .int (X.2 (Int32.toNatClampNeg (l3 + (1 : Int32))))]) (cf1 := (230, [some (.ref 100), some (.ref 0), some (.ref 50), some (.int l3)], [.int q182.1], i_S X q182.2)) (cf' := (230, [some (.ref 100), some (.ref 0), some (.ref 50), some (.int l3)], [.int q183.1, .int q182.1], i_S X q183.2)) rfl (ok_r_land (by omega) hq183) rfl ?_
  by_cases c184 : q182.1 = q183.1
  · replace h := (if_pos c184).symm.trans h
    refine i_rbT (c := q182.1 = q183.1) (t := 1466) (n := 233) rfl c184 ?_
    refine i_rs 2 (cf' := (18, [some (.ref 100), some (.ref 0), some (.ref 50), some (.int (l3 + (6 : Int32)))], [], i_S X q183.2)) rfl ?_
    refine i_fg (lv' := [some (.ref 100), some (.ref 0), some (.ref 50), some (.int (l3 + (6 : Int32)))]) (And.intro rfl (And.intro rfl (And.intro rfl (And.intro rfl True.intro)))) ?_
    exact hself (l3 + (6 : Int32)) q183.2 _ h
  · replace h := (if_neg c184).symm.trans h
    refine i_rbF (c := q182.1 = q183.1) (t := 1466) (n := 233) rfl c184 ?_
    refine i_rs 1 (cf' := (234, [some (.ref 100), some (.ref 0), some (.ref 50), some (.int l3)], [.int (0 : Int32)], i_S X q183.2)) rfl ?_
    obtain rfl := Option.some.inj h
    exact i_rretZ rfl (Or.inl rfl) rfl
def w_law_L18 (X : Nat × (Nat → Int32)) : Nat → Int32 → I_M → Option (Int32 × I_M)
  | 0, _, _ => none
  | n + 1, l3, M =>
    (if ((Int32.ofNat X.1) - (6 : Int32)) < l3 then
        some ((1 : Int32), M)
      else
        i_g l3 X.1 ((if ((X.2 (Int32.toNatClampNeg l3)) &&& (63 : Int32)) = (0 : Int32) then
          w_law_B212 X ((w_law_L18 X n)) l3 M
        else
          (if ((X.2 (Int32.toNatClampNeg l3)) &&& (63 : Int32)) = (1 : Int32) then
            w_law_B235 X ((w_law_L18 X n)) l3 M
          else
            (if ((X.2 (Int32.toNatClampNeg l3)) &&& (63 : Int32)) = (2 : Int32) then
              w_law_B268 X ((w_law_L18 X n)) l3 M
            else
              (if ((X.2 (Int32.toNatClampNeg l3)) &&& (63 : Int32)) = (3 : Int32) then
                w_law_B311 X ((w_law_L18 X n)) l3 M
              else
                (if ((X.2 (Int32.toNatClampNeg l3)) &&& (63 : Int32)) = (4 : Int32) then
                  w_law_B354 X ((w_law_L18 X n)) l3 M
                else
                  (if ((X.2 (Int32.toNatClampNeg l3)) &&& (63 : Int32)) = (5 : Int32) then
                    w_law_B387 X ((w_law_L18 X n)) l3 M
                  else
                    (if ((X.2 (Int32.toNatClampNeg l3)) &&& (63 : Int32)) = (6 : Int32) then
                      w_law_B410 X ((w_law_L18 X n)) l3 M
                    else
                      (if ((X.2 (Int32.toNatClampNeg l3)) &&& (63 : Int32)) = (7 : Int32) then
                        w_law_B423 X ((w_law_L18 X n)) l3 M
                      else
                        (if ((X.2 (Int32.toNatClampNeg l3)) &&& (63 : Int32)) = (8 : Int32) then
                          w_law_B466 X ((w_law_L18 X n)) l3 M
                        else
                          (if ((X.2 (Int32.toNatClampNeg l3)) &&& (63 : Int32)) = (9 : Int32) then
                            w_law_B499 X ((w_law_L18 X n)) l3 M
                          else
                            (if ((X.2 (Int32.toNatClampNeg l3)) &&& (63 : Int32)) = (10 : Int32) then
                              w_law_B542 X ((w_law_L18 X n)) l3 M
                            else
                              (if ((X.2 (Int32.toNatClampNeg l3)) &&& (63 : Int32)) = (11 : Int32) then
                                w_law_B555 X ((w_law_L18 X n)) l3 M
                              else
                                (if ((X.2 (Int32.toNatClampNeg l3)) &&& (63 : Int32)) = (12 : Int32) then
                                  w_law_B588 X ((w_law_L18 X n)) l3 M
                                else
                                  (if ((X.2 (Int32.toNatClampNeg l3)) &&& (63 : Int32)) = (13 : Int32) then
                                    w_law_B621 X ((w_law_L18 X n)) l3 M
                                  else
                                    (if ((X.2 (Int32.toNatClampNeg l3)) &&& (63 : Int32)) = (14 : Int32) then
                                      w_law_B664 X ((w_law_L18 X n)) l3 M
                                    else
                                      (if ((X.2 (Int32.toNatClampNeg l3)) &&& (63 : Int32)) = (15 : Int32) then
                                        w_law_B687 X ((w_law_L18 X n)) l3 M
                                      else
                                        (if ((X.2 (Int32.toNatClampNeg l3)) &&& (63 : Int32)) = (16 : Int32) then
                                          w_law_B720 X ((w_law_L18 X n)) l3 M
                                        else
                                          (if ((X.2 (Int32.toNatClampNeg l3)) &&& (63 : Int32)) = (17 : Int32) then
                                            w_law_B753 X ((w_law_L18 X n)) l3 M
                                          else
                                            (if ((X.2 (Int32.toNatClampNeg l3)) &&& (63 : Int32)) = (18 : Int32) then
                                              w_law_B776 X ((w_law_L18 X n)) l3 M
                                            else
                                              (if ((X.2 (Int32.toNatClampNeg l3)) &&& (63 : Int32)) = (19 : Int32) then
                                                w_law_B799 X ((w_law_L18 X n)) l3 M
                                              else
                                                (if ((X.2 (Int32.toNatClampNeg l3)) &&& (63 : Int32)) = (20 : Int32) then
                                                  w_law_B822 X ((w_law_L18 X n)) l3 M
                                                else
                                                  (if ((X.2 (Int32.toNatClampNeg l3)) &&& (63 : Int32)) = (21 : Int32) then
                                                    w_law_B855 X ((w_law_L18 X n)) l3 M
                                                  else
                                                    (if ((X.2 (Int32.toNatClampNeg l3)) &&& (63 : Int32)) = (22 : Int32) then
                                                      w_law_B868 X ((w_law_L18 X n)) l3 M
                                                    else
                                                      (if ((X.2 (Int32.toNatClampNeg l3)) &&& (63 : Int32)) = (23 : Int32) then
                                                        w_law_B901 X ((w_law_L18 X n)) l3 M
                                                      else
                                                        (if ((X.2 (Int32.toNatClampNeg l3)) &&& (63 : Int32)) = (24 : Int32) then
                                                          w_law_B934 X ((w_law_L18 X n)) l3 M
                                                        else
                                                          (if ((X.2 (Int32.toNatClampNeg l3)) &&& (63 : Int32)) = (25 : Int32) then
                                                            w_law_B967 X ((w_law_L18 X n)) l3 M
                                                          else
                                                            (if ((X.2 (Int32.toNatClampNeg l3)) &&& (63 : Int32)) = (26 : Int32) then
                                                              w_law_B1000 X ((w_law_L18 X n)) l3 M
                                                            else
                                                              (if ((X.2 (Int32.toNatClampNeg l3)) &&& (63 : Int32)) = (27 : Int32) then
                                                                w_law_B1023 X ((w_law_L18 X n)) l3 M
                                                              else
                                                                (if ((X.2 (Int32.toNatClampNeg l3)) &&& (63 : Int32)) = (28 : Int32) then
                                                                  w_law_B1036 X ((w_law_L18 X n)) l3 M
                                                                else
                                                                  (if ((X.2 (Int32.toNatClampNeg l3)) &&& (63 : Int32)) = (29 : Int32) then
                                                                    w_law_B1049 X ((w_law_L18 X n)) l3 M
                                                                  else
                                                                    (if ((X.2 (Int32.toNatClampNeg l3)) &&& (63 : Int32)) = (30 : Int32) then
                                                                      w_law_B1062 X ((w_law_L18 X n)) l3 M
                                                                    else
                                                                      (if ((X.2 (Int32.toNatClampNeg l3)) &&& (63 : Int32)) = (31 : Int32) then
                                                                        w_law_B1075 X ((w_law_L18 X n)) l3 M
                                                                      else
                                                                        (if ((X.2 (Int32.toNatClampNeg l3)) &&& (63 : Int32)) = (32 : Int32) then
                                                                          w_law_B1098 X ((w_law_L18 X n)) l3 M
                                                                        else
                                                                          (if ((X.2 (Int32.toNatClampNeg l3)) &&& (63 : Int32)) = (33 : Int32) then
                                                                            w_law_B1141 X ((w_law_L18 X n)) l3 M
                                                                          else
                                                                            (if ((X.2 (Int32.toNatClampNeg l3)) &&& (63 : Int32)) = (34 : Int32) then
                                                                              w_law_B1164 X ((w_law_L18 X n)) l3 M
                                                                            else
                                                                              (if ((X.2 (Int32.toNatClampNeg l3)) &&& (63 : Int32)) = (35 : Int32) then
                                                                                w_law_B1197 X ((w_law_L18 X n)) l3 M
                                                                              else
                                                                                (if ((X.2 (Int32.toNatClampNeg l3)) &&& (63 : Int32)) = (36 : Int32) then
                                                                                  w_law_B1240 X ((w_law_L18 X n)) l3 M
                                                                                else
                                                                                  (if ((X.2 (Int32.toNatClampNeg l3)) &&& (63 : Int32)) = (37 : Int32) then
                                                                                    w_law_B1313 X ((w_law_L18 X n)) l3 M
                                                                                  else
                                                                                    (if ((X.2 (Int32.toNatClampNeg l3)) &&& (63 : Int32)) = (38 : Int32) then
                                                                                      w_law_B1347 X ((w_law_L18 X n)) l3 M
                                                                                    else
                                                                                      (if ((X.2 (Int32.toNatClampNeg l3)) &&& (63 : Int32)) = (39 : Int32) then
                                                                                        w_law_B1410 X ((w_law_L18 X n)) l3 M
                                                                                      else
                                                                                        (if ((X.2 (Int32.toNatClampNeg l3)) &&& (63 : Int32)) = (40 : Int32) then
                                                                                          w_law_B1443 X ((w_law_L18 X n)) l3 M
                                                                                        else
                                                                                          (w_law_L18 X n) (l3 + (6 : Int32)) M)))))))))))))))))))))))))))))))))))))))))))
set_option maxHeartbeats 20000000 in
set_option maxRecDepth 100000 in
theorem ok_w_law_L18 {X : Nat × (Nat → Int32)} {d : Nat} (hd : 81 ≤ d + 1) : ∀ (n : Nat) (l3 : Int32) (M : I_M) (r : (Int32 × I_M)), w_law_L18 X n l3 M = some r → I_RnE (I_Ex d) i_c266 (18, [some (.ref 100), some (.ref 0), some (.ref 50), some (.int l3)], [], i_S X M) (some (.int r.1)) (i_S X r.2) := by
  intro n
  induction n with
  | zero => intro _ M r h; cases h
  | succ n hself =>
    intro l3 M r h
    rw [w_law_L18] at h
    refine i_rs 5 (cf' := (24, [some (.ref 100), some (.ref 0), some (.ref 50), some (.int l3)], [.int ((Int32.ofNat X.1) - (6 : Int32)), .int l3], i_S X M)) rfl ?_
    by_cases c1 : ((Int32.ofNat X.1) - (6 : Int32)) < l3
    · replace h := (if_pos c1).symm.trans h
      refine i_rbT (c := ((Int32.ofNat X.1) - (6 : Int32)) < l3) (t := 1472) (n := 27) rfl c1 ?_
      refine i_rs 1 (cf' := (1473, [some (.ref 100), some (.ref 0), some (.ref 50), some (.int l3)], [.int (1 : Int32)], i_S X M)) rfl ?_
      obtain rfl := Option.some.inj h
      exact i_rretZ rfl (Or.inr rfl) rfl
    · replace h := (if_neg c1).symm.trans h
      refine i_rbF (c := ((Int32.ofNat X.1) - (6 : Int32)) < l3) (t := 1472) (n := 27) rfl c1 ?_
      refine i_rs 2 (cf' := (29, [some (.ref 100), some (.ref 0), some (.ref 50), some (.int l3)], [.int l3, .ref 100], i_S X M)) rfl ?_
      obtain ⟨g2, h⟩ := i_gE h
      refine i_riald (n := X.1) (cf' := (30, [some (.ref 100), some (.ref 0), some (.ref 50), some (.int l3)], [.int (X.2 (Int32.toNatClampNeg l3))], i_S X M)) rfl rfl (by decide) g2 rfl ?_
      refine i_rs 2 (cf' := (33, [some (.ref 100), some (.ref 0), some (.ref 50), some (.int l3)], [.int ((X.2 (Int32.toNatClampNeg l3)) &&& (63 : Int32))], i_S X M)) rfl ?_
      refine i_stp1 (cf' := (i_sw ((X.2 (Int32.toNatClampNeg l3)) &&& (63 : Int32)) 1466 [(0, 212), (1, 235), (2, 268), (3, 311), (4, 354), (5, 387), (6, 410), (7, 423), (8, 466), (9, 499), (10, 542), (11, 555), (12, 588), (13, 621), (14, 664), (15, 687), (16, 720), (17, 753), (18, 776), (19, 799), (20, 822), (21, 855), (22, 868), (23, 901), (24, 934), (25, 967), (26, 1000), (27, 1023), (28, 1036), (29, 1049), (30, 1062), (31, 1075), (32, 1098), (33, 1141), (34, 1164), (35, 1197), (36, 1240), (37, 1313), (38, 1347), (39, 1410), (40, 1443)], [some (.ref 100), some (.ref 0), some (.ref 50), some (.int l3)], [], i_S X M)) rfl ?_
      by_cases c3 : ((X.2 (Int32.toNatClampNeg l3)) &&& (63 : Int32)) = (0 : Int32)
      · replace h := (if_pos c3).symm.trans h
        refine i_rswT c3 ?_
        refine i_fg (lv' := [some (.ref 100), some (.ref 0), some (.ref 50), some (.int l3)]) (And.intro rfl (And.intro rfl (And.intro rfl (And.intro rfl True.intro)))) ?_
        exact ok_w_law_B212 hself (by omega) h
      · replace h := (if_neg c3).symm.trans h
        refine i_rswF c3 ?_
        by_cases c4 : ((X.2 (Int32.toNatClampNeg l3)) &&& (63 : Int32)) = (1 : Int32)
        · replace h := (if_pos c4).symm.trans h
          refine i_rswT c4 ?_
          refine i_fg (lv' := [some (.ref 100), some (.ref 0), some (.ref 50), some (.int l3)]) (And.intro rfl (And.intro rfl (And.intro rfl (And.intro rfl True.intro)))) ?_
          exact ok_w_law_B235 hself (by omega) h
        · replace h := (if_neg c4).symm.trans h
          refine i_rswF c4 ?_
          by_cases c5 : ((X.2 (Int32.toNatClampNeg l3)) &&& (63 : Int32)) = (2 : Int32)
          · replace h := (if_pos c5).symm.trans h
            refine i_rswT c5 ?_
            refine i_fg (lv' := [some (.ref 100), some (.ref 0), some (.ref 50), some (.int l3)]) (And.intro rfl (And.intro rfl (And.intro rfl (And.intro rfl True.intro)))) ?_
            exact ok_w_law_B268 hself (by omega) h
          · replace h := (if_neg c5).symm.trans h
            refine i_rswF c5 ?_
            by_cases c6 : ((X.2 (Int32.toNatClampNeg l3)) &&& (63 : Int32)) = (3 : Int32)
            · replace h := (if_pos c6).symm.trans h
              refine i_rswT c6 ?_
              refine i_fg (lv' := [some (.ref 100), some (.ref 0), some (.ref 50), some (.int l3)]) (And.intro rfl (And.intro rfl (And.intro rfl (And.intro rfl True.intro)))) ?_
              exact ok_w_law_B311 hself (by omega) h
            · replace h := (if_neg c6).symm.trans h
              refine i_rswF c6 ?_
              by_cases c7 : ((X.2 (Int32.toNatClampNeg l3)) &&& (63 : Int32)) = (4 : Int32)
              · replace h := (if_pos c7).symm.trans h
                refine i_rswT c7 ?_
                refine i_fg (lv' := [some (.ref 100), some (.ref 0), some (.ref 50), some (.int l3)]) (And.intro rfl (And.intro rfl (And.intro rfl (And.intro rfl True.intro)))) ?_
                exact ok_w_law_B354 hself (by omega) h
              · replace h := (if_neg c7).symm.trans h
                refine i_rswF c7 ?_
                by_cases c8 : ((X.2 (Int32.toNatClampNeg l3)) &&& (63 : Int32)) = (5 : Int32)
                · replace h := (if_pos c8).symm.trans h
                  refine i_rswT c8 ?_
                  refine i_fg (lv' := [some (.ref 100), some (.ref 0), some (.ref 50), some (.int l3)]) (And.intro rfl (And.intro rfl (And.intro rfl (And.intro rfl True.intro)))) ?_
                  exact ok_w_law_B387 hself (by omega) h
                · replace h := (if_neg c8).symm.trans h
                  refine i_rswF c8 ?_
                  by_cases c9 : ((X.2 (Int32.toNatClampNeg l3)) &&& (63 : Int32)) = (6 : Int32)
                  · replace h := (if_pos c9).symm.trans h
                    refine i_rswT c9 ?_
                    refine i_fg (lv' := [some (.ref 100), some (.ref 0), some (.ref 50), some (.int l3)]) (And.intro rfl (And.intro rfl (And.intro rfl (And.intro rfl True.intro)))) ?_
                    exact ok_w_law_B410 hself (by omega) h
                  · replace h := (if_neg c9).symm.trans h
                    refine i_rswF c9 ?_
                    by_cases c10 : ((X.2 (Int32.toNatClampNeg l3)) &&& (63 : Int32)) = (7 : Int32)
                    · replace h := (if_pos c10).symm.trans h
                      refine i_rswT c10 ?_
                      refine i_fg (lv' := [some (.ref 100), some (.ref 0), some (.ref 50), some (.int l3)]) (And.intro rfl (And.intro rfl (And.intro rfl (And.intro rfl True.intro)))) ?_
                      exact ok_w_law_B423 hself (by omega) h
                    · replace h := (if_neg c10).symm.trans h
                      refine i_rswF c10 ?_
                      by_cases c11 : ((X.2 (Int32.toNatClampNeg l3)) &&& (63 : Int32)) = (8 : Int32)
                      · replace h := (if_pos c11).symm.trans h
                        refine i_rswT c11 ?_
                        refine i_fg (lv' := [some (.ref 100), some (.ref 0), some (.ref 50), some (.int l3)]) (And.intro rfl (And.intro rfl (And.intro rfl (And.intro rfl True.intro)))) ?_
                        exact ok_w_law_B466 hself (by omega) h
                      · replace h := (if_neg c11).symm.trans h
                        refine i_rswF c11 ?_
                        by_cases c12 : ((X.2 (Int32.toNatClampNeg l3)) &&& (63 : Int32)) = (9 : Int32)
                        · replace h := (if_pos c12).symm.trans h
                          refine i_rswT c12 ?_
                          refine i_fg (lv' := [some (.ref 100), some (.ref 0), some (.ref 50), some (.int l3)]) (And.intro rfl (And.intro rfl (And.intro rfl (And.intro rfl True.intro)))) ?_
                          exact ok_w_law_B499 hself (by omega) h
                        · replace h := (if_neg c12).symm.trans h
                          refine i_rswF c12 ?_
                          by_cases c13 : ((X.2 (Int32.toNatClampNeg l3)) &&& (63 : Int32)) = (10 : Int32)
                          · replace h := (if_pos c13).symm.trans h
                            refine i_rswT c13 ?_
                            refine i_fg (lv' := [some (.ref 100), some (.ref 0), some (.ref 50), some (.int l3)]) (And.intro rfl (And.intro rfl (And.intro rfl (And.intro rfl True.intro)))) ?_
                            exact ok_w_law_B542 hself (by omega) h
                          · replace h := (if_neg c13).symm.trans h
                            refine i_rswF c13 ?_
                            by_cases c14 : ((X.2 (Int32.toNatClampNeg l3)) &&& (63 : Int32)) = (11 : Int32)
                            · replace h := (if_pos c14).symm.trans h
                              refine i_rswT c14 ?_
                              refine i_fg (lv' := [some (.ref 100), some (.ref 0), some (.ref 50), some (.int l3)]) (And.intro rfl (And.intro rfl (And.intro rfl (And.intro rfl True.intro)))) ?_
                              exact ok_w_law_B555 hself (by omega) h
                            · replace h := (if_neg c14).symm.trans h
                              refine i_rswF c14 ?_
                              by_cases c15 : ((X.2 (Int32.toNatClampNeg l3)) &&& (63 : Int32)) = (12 : Int32)
                              · replace h := (if_pos c15).symm.trans h
                                refine i_rswT c15 ?_
                                refine i_fg (lv' := [some (.ref 100), some (.ref 0), some (.ref 50), some (.int l3)]) (And.intro rfl (And.intro rfl (And.intro rfl (And.intro rfl True.intro)))) ?_
                                exact ok_w_law_B588 hself (by omega) h
                              · replace h := (if_neg c15).symm.trans h
                                refine i_rswF c15 ?_
                                by_cases c16 : ((X.2 (Int32.toNatClampNeg l3)) &&& (63 : Int32)) = (13 : Int32)
                                · replace h := (if_pos c16).symm.trans h
                                  refine i_rswT c16 ?_
                                  refine i_fg (lv' := [some (.ref 100), some (.ref 0), some (.ref 50), some (.int l3)]) (And.intro rfl (And.intro rfl (And.intro rfl (And.intro rfl True.intro)))) ?_
                                  exact ok_w_law_B621 hself (by omega) h
                                · replace h := (if_neg c16).symm.trans h
                                  refine i_rswF c16 ?_
                                  by_cases c17 : ((X.2 (Int32.toNatClampNeg l3)) &&& (63 : Int32)) = (14 : Int32)
                                  · replace h := (if_pos c17).symm.trans h
                                    refine i_rswT c17 ?_
                                    refine i_fg (lv' := [some (.ref 100), some (.ref 0), some (.ref 50), some (.int l3)]) (And.intro rfl (And.intro rfl (And.intro rfl (And.intro rfl True.intro)))) ?_
                                    exact ok_w_law_B664 hself (by omega) h
                                  · replace h := (if_neg c17).symm.trans h
                                    refine i_rswF c17 ?_
                                    by_cases c18 : ((X.2 (Int32.toNatClampNeg l3)) &&& (63 : Int32)) = (15 : Int32)
                                    · replace h := (if_pos c18).symm.trans h
                                      refine i_rswT c18 ?_
                                      refine i_fg (lv' := [some (.ref 100), some (.ref 0), some (.ref 50), some (.int l3)]) (And.intro rfl (And.intro rfl (And.intro rfl (And.intro rfl True.intro)))) ?_
                                      exact ok_w_law_B687 hself (by omega) h
                                    · replace h := (if_neg c18).symm.trans h
                                      refine i_rswF c18 ?_
                                      by_cases c19 : ((X.2 (Int32.toNatClampNeg l3)) &&& (63 : Int32)) = (16 : Int32)
                                      · replace h := (if_pos c19).symm.trans h
                                        refine i_rswT c19 ?_
                                        refine i_fg (lv' := [some (.ref 100), some (.ref 0), some (.ref 50), some (.int l3)]) (And.intro rfl (And.intro rfl (And.intro rfl (And.intro rfl True.intro)))) ?_
                                        exact ok_w_law_B720 hself (by omega) h
                                      · replace h := (if_neg c19).symm.trans h
                                        refine i_rswF c19 ?_
                                        by_cases c20 : ((X.2 (Int32.toNatClampNeg l3)) &&& (63 : Int32)) = (17 : Int32)
                                        · replace h := (if_pos c20).symm.trans h
                                          refine i_rswT c20 ?_
                                          refine i_fg (lv' := [some (.ref 100), some (.ref 0), some (.ref 50), some (.int l3)]) (And.intro rfl (And.intro rfl (And.intro rfl (And.intro rfl True.intro)))) ?_
                                          exact ok_w_law_B753 hself (by omega) h
                                        · replace h := (if_neg c20).symm.trans h
                                          refine i_rswF c20 ?_
                                          by_cases c21 : ((X.2 (Int32.toNatClampNeg l3)) &&& (63 : Int32)) = (18 : Int32)
                                          · replace h := (if_pos c21).symm.trans h
                                            refine i_rswT c21 ?_
                                            refine i_fg (lv' := [some (.ref 100), some (.ref 0), some (.ref 50), some (.int l3)]) (And.intro rfl (And.intro rfl (And.intro rfl (And.intro rfl True.intro)))) ?_
                                            exact ok_w_law_B776 hself (by omega) h
                                          · replace h := (if_neg c21).symm.trans h
                                            refine i_rswF c21 ?_
                                            by_cases c22 : ((X.2 (Int32.toNatClampNeg l3)) &&& (63 : Int32)) = (19 : Int32)
                                            · replace h := (if_pos c22).symm.trans h
                                              refine i_rswT c22 ?_
                                              refine i_fg (lv' := [some (.ref 100), some (.ref 0), some (.ref 50), some (.int l3)]) (And.intro rfl (And.intro rfl (And.intro rfl (And.intro rfl True.intro)))) ?_
                                              exact ok_w_law_B799 hself (by omega) h
                                            · replace h := (if_neg c22).symm.trans h
                                              refine i_rswF c22 ?_
                                              by_cases c23 : ((X.2 (Int32.toNatClampNeg l3)) &&& (63 : Int32)) = (20 : Int32)
                                              · replace h := (if_pos c23).symm.trans h
                                                refine i_rswT c23 ?_
                                                refine i_fg (lv' := [some (.ref 100), some (.ref 0), some (.ref 50), some (.int l3)]) (And.intro rfl (And.intro rfl (And.intro rfl (And.intro rfl True.intro)))) ?_
                                                exact ok_w_law_B822 hself (by omega) h
                                              · replace h := (if_neg c23).symm.trans h
                                                refine i_rswF c23 ?_
                                                by_cases c24 : ((X.2 (Int32.toNatClampNeg l3)) &&& (63 : Int32)) = (21 : Int32)
                                                · replace h := (if_pos c24).symm.trans h
                                                  refine i_rswT c24 ?_
                                                  refine i_fg (lv' := [some (.ref 100), some (.ref 0), some (.ref 50), some (.int l3)]) (And.intro rfl (And.intro rfl (And.intro rfl (And.intro rfl True.intro)))) ?_
                                                  exact ok_w_law_B855 hself (by omega) h
                                                · replace h := (if_neg c24).symm.trans h
                                                  refine i_rswF c24 ?_
                                                  by_cases c25 : ((X.2 (Int32.toNatClampNeg l3)) &&& (63 : Int32)) = (22 : Int32)
                                                  · replace h := (if_pos c25).symm.trans h
                                                    refine i_rswT c25 ?_
                                                    refine i_fg (lv' := [some (.ref 100), some (.ref 0), some (.ref 50), some (.int l3)]) (And.intro rfl (And.intro rfl (And.intro rfl (And.intro rfl True.intro)))) ?_
                                                    exact ok_w_law_B868 hself (by omega) h
                                                  · replace h := (if_neg c25).symm.trans h
                                                    refine i_rswF c25 ?_
                                                    by_cases c26 : ((X.2 (Int32.toNatClampNeg l3)) &&& (63 : Int32)) = (23 : Int32)
                                                    · replace h := (if_pos c26).symm.trans h
                                                      refine i_rswT c26 ?_
                                                      refine i_fg (lv' := [some (.ref 100), some (.ref 0), some (.ref 50), some (.int l3)]) (And.intro rfl (And.intro rfl (And.intro rfl (And.intro rfl True.intro)))) ?_
                                                      exact ok_w_law_B901 hself (by omega) h
                                                    · replace h := (if_neg c26).symm.trans h
                                                      refine i_rswF c26 ?_
                                                      by_cases c27 : ((X.2 (Int32.toNatClampNeg l3)) &&& (63 : Int32)) = (24 : Int32)
                                                      · replace h := (if_pos c27).symm.trans h
                                                        refine i_rswT c27 ?_
                                                        refine i_fg (lv' := [some (.ref 100), some (.ref 0), some (.ref 50), some (.int l3)]) (And.intro rfl (And.intro rfl (And.intro rfl (And.intro rfl True.intro)))) ?_
                                                        exact ok_w_law_B934 hself (by omega) h
                                                      · replace h := (if_neg c27).symm.trans h
                                                        refine i_rswF c27 ?_
                                                        by_cases c28 : ((X.2 (Int32.toNatClampNeg l3)) &&& (63 : Int32)) = (25 : Int32)
                                                        · replace h := (if_pos c28).symm.trans h
                                                          refine i_rswT c28 ?_
                                                          refine i_fg (lv' := [some (.ref 100), some (.ref 0), some (.ref 50), some (.int l3)]) (And.intro rfl (And.intro rfl (And.intro rfl (And.intro rfl True.intro)))) ?_
                                                          exact ok_w_law_B967 hself (by omega) h
                                                        · replace h := (if_neg c28).symm.trans h
                                                          refine i_rswF c28 ?_
                                                          by_cases c29 : ((X.2 (Int32.toNatClampNeg l3)) &&& (63 : Int32)) = (26 : Int32)
                                                          · replace h := (if_pos c29).symm.trans h
                                                            refine i_rswT c29 ?_
                                                            refine i_fg (lv' := [some (.ref 100), some (.ref 0), some (.ref 50), some (.int l3)]) (And.intro rfl (And.intro rfl (And.intro rfl (And.intro rfl True.intro)))) ?_
                                                            exact ok_w_law_B1000 hself (by omega) h
                                                          · replace h := (if_neg c29).symm.trans h
                                                            refine i_rswF c29 ?_
                                                            by_cases c30 : ((X.2 (Int32.toNatClampNeg l3)) &&& (63 : Int32)) = (27 : Int32)
                                                            · replace h := (if_pos c30).symm.trans h
                                                              refine i_rswT c30 ?_
                                                              refine i_fg (lv' := [some (.ref 100), some (.ref 0), some (.ref 50), some (.int l3)]) (And.intro rfl (And.intro rfl (And.intro rfl (And.intro rfl True.intro)))) ?_
                                                              exact ok_w_law_B1023 hself (by omega) h
                                                            · replace h := (if_neg c30).symm.trans h
                                                              refine i_rswF c30 ?_
                                                              by_cases c31 : ((X.2 (Int32.toNatClampNeg l3)) &&& (63 : Int32)) = (28 : Int32)
                                                              · replace h := (if_pos c31).symm.trans h
                                                                refine i_rswT c31 ?_
                                                                refine i_fg (lv' := [some (.ref 100), some (.ref 0), some (.ref 50), some (.int l3)]) (And.intro rfl (And.intro rfl (And.intro rfl (And.intro rfl True.intro)))) ?_
                                                                exact ok_w_law_B1036 hself (by omega) h
                                                              · replace h := (if_neg c31).symm.trans h
                                                                refine i_rswF c31 ?_
                                                                by_cases c32 : ((X.2 (Int32.toNatClampNeg l3)) &&& (63 : Int32)) = (29 : Int32)
                                                                · replace h := (if_pos c32).symm.trans h
                                                                  refine i_rswT c32 ?_
                                                                  refine i_fg (lv' := [some (.ref 100), some (.ref 0), some (.ref 50), some (.int l3)]) (And.intro rfl (And.intro rfl (And.intro rfl (And.intro rfl True.intro)))) ?_
                                                                  exact ok_w_law_B1049 hself (by omega) h
                                                                · replace h := (if_neg c32).symm.trans h
                                                                  refine i_rswF c32 ?_
                                                                  by_cases c33 : ((X.2 (Int32.toNatClampNeg l3)) &&& (63 : Int32)) = (30 : Int32)
                                                                  · replace h := (if_pos c33).symm.trans h
                                                                    refine i_rswT c33 ?_
                                                                    refine i_fg (lv' := [some (.ref 100), some (.ref 0), some (.ref 50), some (.int l3)]) (And.intro rfl (And.intro rfl (And.intro rfl (And.intro rfl True.intro)))) ?_
                                                                    exact ok_w_law_B1062 hself (by omega) h
                                                                  · replace h := (if_neg c33).symm.trans h
                                                                    refine i_rswF c33 ?_
                                                                    by_cases c34 : ((X.2 (Int32.toNatClampNeg l3)) &&& (63 : Int32)) = (31 : Int32)
                                                                    · replace h := (if_pos c34).symm.trans h
                                                                      refine i_rswT c34 ?_
                                                                      refine i_fg (lv' := [some (.ref 100), some (.ref 0), some (.ref 50), some (.int l3)]) (And.intro rfl (And.intro rfl (And.intro rfl (And.intro rfl True.intro)))) ?_
                                                                      exact ok_w_law_B1075 hself (by omega) h
                                                                    · replace h := (if_neg c34).symm.trans h
                                                                      refine i_rswF c34 ?_
                                                                      by_cases c35 : ((X.2 (Int32.toNatClampNeg l3)) &&& (63 : Int32)) = (32 : Int32)
                                                                      · replace h := (if_pos c35).symm.trans h
                                                                        refine i_rswT c35 ?_
                                                                        refine i_fg (lv' := [some (.ref 100), some (.ref 0), some (.ref 50), some (.int l3)]) (And.intro rfl (And.intro rfl (And.intro rfl (And.intro rfl True.intro)))) ?_
                                                                        exact ok_w_law_B1098 hself (by omega) h
                                                                      · replace h := (if_neg c35).symm.trans h
                                                                        refine i_rswF c35 ?_
                                                                        by_cases c36 : ((X.2 (Int32.toNatClampNeg l3)) &&& (63 : Int32)) = (33 : Int32)
                                                                        · replace h := (if_pos c36).symm.trans h
                                                                          refine i_rswT c36 ?_
                                                                          refine i_fg (lv' := [some (.ref 100), some (.ref 0), some (.ref 50), some (.int l3)]) (And.intro rfl (And.intro rfl (And.intro rfl (And.intro rfl True.intro)))) ?_
                                                                          exact ok_w_law_B1141 hself (by omega) h
                                                                        · replace h := (if_neg c36).symm.trans h
                                                                          refine i_rswF c36 ?_
                                                                          by_cases c37 : ((X.2 (Int32.toNatClampNeg l3)) &&& (63 : Int32)) = (34 : Int32)
                                                                          · replace h := (if_pos c37).symm.trans h
                                                                            refine i_rswT c37 ?_
                                                                            refine i_fg (lv' := [some (.ref 100), some (.ref 0), some (.ref 50), some (.int l3)]) (And.intro rfl (And.intro rfl (And.intro rfl (And.intro rfl True.intro)))) ?_
                                                                            exact ok_w_law_B1164 hself (by omega) h
                                                                          · replace h := (if_neg c37).symm.trans h
                                                                            refine i_rswF c37 ?_
                                                                            by_cases c38 : ((X.2 (Int32.toNatClampNeg l3)) &&& (63 : Int32)) = (35 : Int32)
                                                                            · replace h := (if_pos c38).symm.trans h
                                                                              refine i_rswT c38 ?_
                                                                              refine i_fg (lv' := [some (.ref 100), some (.ref 0), some (.ref 50), some (.int l3)]) (And.intro rfl (And.intro rfl (And.intro rfl (And.intro rfl True.intro)))) ?_
                                                                              exact ok_w_law_B1197 hself (by omega) h
                                                                            · replace h := (if_neg c38).symm.trans h
                                                                              refine i_rswF c38 ?_
                                                                              by_cases c39 : ((X.2 (Int32.toNatClampNeg l3)) &&& (63 : Int32)) = (36 : Int32)
                                                                              · replace h := (if_pos c39).symm.trans h
                                                                                refine i_rswT c39 ?_
                                                                                refine i_fg (lv' := [some (.ref 100), some (.ref 0), some (.ref 50), some (.int l3)]) (And.intro rfl (And.intro rfl (And.intro rfl (And.intro rfl True.intro)))) ?_
                                                                                exact ok_w_law_B1240 hself (by omega) h
                                                                              · replace h := (if_neg c39).symm.trans h
                                                                                refine i_rswF c39 ?_
                                                                                by_cases c40 : ((X.2 (Int32.toNatClampNeg l3)) &&& (63 : Int32)) = (37 : Int32)
                                                                                · replace h := (if_pos c40).symm.trans h
                                                                                  refine i_rswT c40 ?_
                                                                                  refine i_fg (lv' := [some (.ref 100), some (.ref 0), some (.ref 50), some (.int l3)]) (And.intro rfl (And.intro rfl (And.intro rfl (And.intro rfl True.intro)))) ?_
                                                                                  exact ok_w_law_B1313 hself (by omega) h
                                                                                · replace h := (if_neg c40).symm.trans h
                                                                                  refine i_rswF c40 ?_
                                                                                  by_cases c41 : ((X.2 (Int32.toNatClampNeg l3)) &&& (63 : Int32)) = (38 : Int32)
                                                                                  · replace h := (if_pos c41).symm.trans h
                                                                                    refine i_rswT c41 ?_
                                                                                    refine i_fg (lv' := [some (.ref 100), some (.ref 0), some (.ref 50), some (.int l3)]) (And.intro rfl (And.intro rfl (And.intro rfl (And.intro rfl True.intro)))) ?_
                                                                                    exact ok_w_law_B1347 hself (by omega) h
                                                                                  · replace h := (if_neg c41).symm.trans h
                                                                                    refine i_rswF c41 ?_
                                                                                    by_cases c42 : ((X.2 (Int32.toNatClampNeg l3)) &&& (63 : Int32)) = (39 : Int32)
                                                                                    · replace h := (if_pos c42).symm.trans h
                                                                                      refine i_rswT c42 ?_
                                                                                      refine i_fg (lv' := [some (.ref 100), some (.ref 0), some (.ref 50), some (.int l3)]) (And.intro rfl (And.intro rfl (And.intro rfl (And.intro rfl True.intro)))) ?_
                                                                                      exact ok_w_law_B1410 hself (by omega) h
                                                                                    · replace h := (if_neg c42).symm.trans h
                                                                                      refine i_rswF c42 ?_
                                                                                      by_cases c43 : ((X.2 (Int32.toNatClampNeg l3)) &&& (63 : Int32)) = (40 : Int32)
                                                                                      · replace h := (if_pos c43).symm.trans h
                                                                                        refine i_rswT c43 ?_
                                                                                        refine i_fg (lv' := [some (.ref 100), some (.ref 0), some (.ref 50), some (.int l3)]) (And.intro rfl (And.intro rfl (And.intro rfl (And.intro rfl True.intro)))) ?_
                                                                                        exact ok_w_law_B1443 hself (by omega) h
                                                                                      · replace h := (if_neg c43).symm.trans h
                                                                                        refine i_rswF c43 ?_
                                                                                        refine i_rs 2 (cf' := (18, [some (.ref 100), some (.ref 0), some (.ref 50), some (.int (l3 + (6 : Int32)))], [], i_S X M)) rfl ?_
                                                                                        refine i_fg (lv' := [some (.ref 100), some (.ref 0), some (.ref 50), some (.int (l3 + (6 : Int32)))]) (And.intro rfl (And.intro rfl (And.intro rfl (And.intro rfl True.intro)))) ?_
                                                                                        exact hself (l3 + (6 : Int32)) M _ h
