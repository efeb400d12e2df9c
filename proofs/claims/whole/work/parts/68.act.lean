/-! ===== part 68: act, the reference and the call ===== -/
section ACT
variable {M : I_M} {kd : Nat} {me : Int32}
theorem on_ne {k j : Nat} (hk : k < 8) (hj : j < 8) (h : k ≠ j) : ¬ Int32.ofNat k = Int32.ofNat j := fun q => h ((on_eq (by omega) (by omega)).mp q)
theorem bg_c {P : Prop} {l : List Nat} {x : Nat} {r : List Nat} (h : (l ++ x :: r).length < 1000000) : l.length < 1000000 ∧ (l ++ [x] ++ r) = l ++ x :: r ∧ (l ++ [x] ++ r).length < 1000000 := by
  have e : l ++ [x] ++ r = l ++ x :: r := by simp
  refine ⟨?_, e, by rw [e]; exact h⟩
  rw [List.length_append] at h
  omega
theorem hums_r (h51 : M.1 50 51 = me) : ∀ (n k : Nat) (x : Int32) (r : Int32 × List Nat), k < 8 → u_hums me n k x = some r → t_RB M r (r_humsAs n (Int32.ofNat k) x) := by
  intro n
  induction n with
  | zero => exact fun k x r _ h => by cases h
  | succ n ih =>
    intro k x r hk hr l hl
    show r_humsAs_b (r_humsAs n) (Int32.ofNat k) x (t_R M l) = _
    unfold r_humsAs_b r_humsAs_b_B16
    unfold u_hums at hr
    have B20 : Option.bind (u_hums me n 0 x) (fun r => some (r.1 + 3, 20 :: r.2)) = some r → Option.bind (r_begins (20 : Int32) (t_R M l)) (fun q1 => Option.bind (r_humsAs n (0 : Int32) x q1) (fun q2 => some ((q2.1 + (3 : Int32)), q2.2))) = some (r.1, t_R M (l ++ r.2)) := by
      intro hr
      obtain ⟨p, hp, hr⟩ := ob hr
      cases hr
      obtain ⟨b1, b2, b3⟩ := bg_c (P := True) hl
      rw [show (20 : Int32) = Int32.ofNat 20 from rfl, bg_r b1]
      dsimp only [Option.bind_some]
      rw [show (0 : Int32) = Int32.ofNat 0 from rfl, ih 0 x p (by omega) hp _ b3, b2]
      rfl
    by_cases c1 : k = 1
    · rw [if_pos c1] at hr
      rw [if_pos (show Int32.ofNat k = 1 by rw [c1]; rfl)]
      exact B20 hr
    rw [if_neg c1] at hr
    rw [if_neg (show ¬ Int32.ofNat k = 1 from on_ne (j := 1) hk (by decide) c1)]
    by_cases c4 : k = 4
    · rw [if_pos c4] at hr
      rw [if_pos (show Int32.ofNat k = 4 by rw [c4]; rfl)]
      exact B20 hr
    rw [if_neg c4] at hr
    rw [if_neg (show ¬ Int32.ofNat k = 4 from on_ne (j := 4) hk (by decide) c4)]
    by_cases c7 : k = 7
    · rw [if_pos c7] at hr
      rw [if_pos (show Int32.ofNat k = 7 by rw [c7]; rfl)]
      exact B20 hr
    rw [if_neg c7] at hr
    rw [if_neg (show ¬ Int32.ofNat k = 7 from on_ne (j := 7) hk (by decide) c7)]
    by_cases c6 : k = 6
    · rw [if_pos c6] at hr
      rw [if_pos (show Int32.ofNat k = 6 by rw [c6]; rfl)]
      obtain ⟨p, hp, hr⟩ := ob hr
      cases hr
      obtain ⟨b1, b2, b3⟩ := bg_c (P := True) hl
      rw [show (70 : Int32) = Int32.ofNat 70 from rfl, bg_r b1]
      dsimp only [Option.bind_some]
      rw [show (0 : Int32) = Int32.ofNat 0 from rfl, ih 0 x p (by omega) hp _ b3, b2]
      rfl
    rw [if_neg c6] at hr
    rw [if_neg (show ¬ Int32.ofNat k = 6 from on_ne (j := 6) hk (by decide) c6)]
    cases hr
    obtain ⟨b1, b2, b3⟩ := bg_c (P := True) hl
    rw [show (1 : Int32) = Int32.ofNat 1 from rfl, bg_r b1]
    dsimp only [Option.bind_some]
    rw [show (t_R M (l ++ [1])).1 50 51 = M.1 50 51 from rfl, h51]
theorem rings_r (h51 : M.1 50 51 = me) (h50 : M.1 50 50 = Int32.ofNat kd) (hkd : kd < 8) : ∀ (n k : Nat) (x : Int32) (r : Int32 × List Nat), k < 8 → u_rings kd me n k x = some r → t_RB M r (r_ringsAs n (Int32.ofNat k) x) := by
  intro n
  induction n with
  | zero => exact fun k x r _ h => by cases h
  | succ n ih =>
    intro k x r hk hr l hl
    show r_ringsAs_b (r_ringsAs n) (Int32.ofNat k) x (t_R M l) = _
    unfold r_ringsAs_b r_ringsAs_b_B10 r_ringsAs_b_B36
    unfold u_rings at hr
    have B40 : Option.bind (u_rings kd me n 2 x) (fun r => some (r.1 * 3, 40 :: r.2)) = some r → Option.bind (r_begins (40 : Int32) (t_R M l)) (fun q1 => Option.bind (r_ringsAs n (2 : Int32) x q1) (fun q2 => some ((q2.1 * (3 : Int32)), q2.2))) = some (r.1, t_R M (l ++ r.2)) := by
      intro hr
      obtain ⟨p, hp, hr⟩ := ob hr
      cases hr
      obtain ⟨b1, b2, b3⟩ := bg_c (P := True) hl
      rw [show (40 : Int32) = Int32.ofNat 40 from rfl, bg_r b1]
      dsimp only [Option.bind_some]
      rw [show (2 : Int32) = Int32.ofNat 2 from rfl, ih 2 x p (by omega) hp _ b3, b2]
      rfl
    have B50 : Option.bind (u_rings kd me n 1 x) (fun r => Option.bind (u_hums me 4 kd 2) (fun s => some (r.1 - s.1, 50 :: (r.2 ++ s.2)))) = some r → Option.bind (r_begins (50 : Int32) (t_R M l)) (fun q3 => Option.bind (r_ringsAs n (1 : Int32) x q3) (fun q4 => Option.bind (r_humsAs 4 (q4.2.1 50 50) (2 : Int32) q4.2) (fun q5 => some ((q4.1 - q5.1), q5.2)))) = some (r.1, t_R M (l ++ r.2)) := by
      intro hr
      obtain ⟨p, hp, hr⟩ := ob hr
      obtain ⟨s, hs, hr⟩ := ob hr
      cases hr
      obtain ⟨b1, b2, b3⟩ := bg_c (P := True) hl
      have b4 := b3
      rw [← List.append_assoc] at b4
      rw [show (50 : Int32) = Int32.ofNat 50 from rfl, bg_r b1]
      dsimp only [Option.bind_some]
      rw [show (1 : Int32) = Int32.ofNat 1 from rfl, ih 1 x p (by omega) hp _ (by rw [List.length_append] at b4; omega)]
      dsimp only [Option.bind_some]
      rw [show (t_R M (l ++ [50] ++ p.2)).1 50 50 = M.1 50 50 from rfl, h50, hums_r h51 4 kd 2 s hkd hs _ b4, List.append_assoc, b2]
      rfl
    by_cases c3 : k = 3
    · rw [if_pos c3] at hr
      rw [if_pos (show Int32.ofNat k = 3 by rw [c3]; rfl)]
      exact B40 hr
    rw [if_neg c3] at hr
    rw [if_neg (show ¬ Int32.ofNat k = 3 from on_ne (j := 3) hk (by decide) c3)]
    by_cases c5 : k = 5
    · rw [if_pos c5] at hr
      rw [if_pos (show Int32.ofNat k = 5 by rw [c5]; rfl)]
      exact B40 hr
    rw [if_neg c5] at hr
    rw [if_neg (show ¬ Int32.ofNat k = 5 from on_ne (j := 5) hk (by decide) c5)]
    by_cases c4 : k = 4
    · rw [if_pos c4] at hr
      rw [if_pos (show Int32.ofNat k = 4 by rw [c4]; rfl)]
      exact B50 hr
    rw [if_neg c4] at hr
    rw [if_neg (show ¬ Int32.ofNat k = 4 from on_ne (j := 4) hk (by decide) c4)]
    by_cases c7 : k = 7
    · rw [if_pos c7] at hr
      rw [if_pos (show Int32.ofNat k = 7 by rw [c7]; rfl)]
      exact B50 hr
    rw [if_neg c7] at hr
    rw [if_neg (show ¬ Int32.ofNat k = 7 from on_ne (j := 7) hk (by decide) c7)]
    cases hr
    obtain ⟨b1, b2, b3⟩ := bg_c (P := True) hl
    rw [show (11 : Int32) = Int32.ofNat 11 from rfl, bg_r b1]
    dsimp only [Option.bind_some]
    rw [show (t_R M (l ++ [11])).1 50 51 = M.1 50 51 from rfl, h51]
theorem lies_r (h51 : M.1 50 51 = me) (h50 : M.1 50 50 = Int32.ofNat kd) (hkd : kd < 8) : ∀ (n k : Nat) (x : Int32) (r : Int32 × List Nat), k < 8 → u_lies kd me n k x = some r → t_RB M r (r_liesAs n (Int32.ofNat k) x) := by
  intro n
  induction n with
  | zero => exact fun k x r _ h => by cases h
  | succ n ih =>
    intro k x r hk hr l hl
    show r_liesAs_b (r_liesAs n) (Int32.ofNat k) x (t_R M l) = _
    unfold r_liesAs_b r_liesAs_b_B10
    unfold u_lies at hr
    have B41 : Option.bind (u_lies kd me n 2 (x + 1)) (fun r => some (r.1, 41 :: r.2)) = some r → Option.bind (r_begins (41 : Int32) (t_R M l)) (fun q1 => Option.bind (r_liesAs n (2 : Int32) (x + (1 : Int32)) q1) (fun q2 => some (q2.1, q2.2))) = some (r.1, t_R M (l ++ r.2)) := by
      intro hr
      obtain ⟨p, hp, hr⟩ := ob hr
      cases hr
      obtain ⟨b1, b2, b3⟩ := bg_c (P := True) hl
      rw [show (41 : Int32) = Int32.ofNat 41 from rfl, bg_r b1]
      dsimp only [Option.bind_some]
      rw [show (2 : Int32) = Int32.ofNat 2 from rfl, ih 2 (x + 1) p (by omega) hp _ b3, b2]
      rfl
    by_cases c3 : k = 3
    · rw [if_pos c3] at hr
      rw [if_pos (show Int32.ofNat k = 3 by rw [c3]; rfl)]
      exact B41 hr
    rw [if_neg c3] at hr
    rw [if_neg (show ¬ Int32.ofNat k = 3 from on_ne (j := 3) hk (by decide) c3)]
    by_cases c5 : k = 5
    · rw [if_pos c5] at hr
      rw [if_pos (show Int32.ofNat k = 5 by rw [c5]; rfl)]
      exact B41 hr
    rw [if_neg c5] at hr
    rw [if_neg (show ¬ Int32.ofNat k = 5 from on_ne (j := 5) hk (by decide) c5)]
    by_cases c2 : k = 2
    · rw [if_pos c2] at hr
      rw [if_pos (show Int32.ofNat k = 2 by rw [c2]; rfl)]
      obtain ⟨p, hp, hr⟩ := ob hr
      cases hr
      obtain ⟨b1, b2, b3⟩ := bg_c (P := True) hl
      rw [show (30 : Int32) = Int32.ofNat 30 from rfl, bg_r b1]
      dsimp only [Option.bind_some]
      rw [show (0 : Int32) = Int32.ofNat 0 from rfl, ih 0 x p (by omega) hp _ b3, b2]
      rfl
    rw [if_neg c2] at hr
    rw [if_neg (show ¬ Int32.ofNat k = 2 from on_ne (j := 2) hk (by decide) c2)]
    by_cases c7 : k = 7
    · rw [if_pos c7] at hr
      rw [if_pos (show Int32.ofNat k = 7 by rw [c7]; rfl)]
      obtain ⟨p, hp, hr⟩ := ob hr
      obtain ⟨s, hs, hr⟩ := ob hr
      cases hr
      obtain ⟨b1, b2, b3⟩ := bg_c (P := True) hl
      have b4 := b3
      rw [← List.append_assoc] at b4
      rw [show (80 : Int32) = Int32.ofNat 80 from rfl, bg_r b1]
      dsimp only [Option.bind_some]
      rw [show (4 : Int32) = Int32.ofNat 4 from rfl, ih 4 x p (by omega) hp _ (by rw [List.length_append] at b4; omega)]
      dsimp only [Option.bind_some]
      rw [show (t_R M (l ++ [80] ++ p.2)).1 50 50 = M.1 50 50 from rfl, h50, rings_r h51 h50 hkd 8 kd 2 s hkd hs _ b4, List.append_assoc, b2]
      rfl
    rw [if_neg c7] at hr
    rw [if_neg (show ¬ Int32.ofNat k = 7 from on_ne (j := 7) hk (by decide) c7)]
    obtain ⟨p, hp, hr⟩ := ob hr
    cases hr
    obtain ⟨b1, b2, b3⟩ := bg_c (P := True) hl
    rw [show (10 : Int32) = Int32.ofNat 10 from rfl, bg_r b1]
    dsimp only [Option.bind_some]
    rw [show (t_R M (l ++ [10])).1 50 50 = M.1 50 50 from rfl, h50, hums_r h51 4 kd x p hkd hp _ b3, b2]
    rfl
theorem tells_r (h51 : M.1 50 51 = me) (h50 : M.1 50 50 = Int32.ofNat kd) (hkd : kd < 8) : ∀ (n k : Nat) (x : Int32) (r : Int32 × List Nat), k < 8 → u_tells kd me n k x = some r → t_RB M r (r_tellsAs n (Int32.ofNat k) x) := by
  intro n
  induction n with
  | zero => exact fun k x r _ h => by cases h
  | succ n ih =>
    intro k x r hk hr l hl
    show r_tellsAs_b (r_tellsAs n) (Int32.ofNat k) x (t_R M l) = _
    unfold r_tellsAs_b
    unfold u_tells at hr
    by_cases c5 : k = 5
    · rw [if_pos c5] at hr
      rw [if_pos (show Int32.ofNat k = 5 by rw [c5]; rfl)]
      obtain ⟨p, hp, hr⟩ := ob hr
      cases hr
      obtain ⟨b1, b2, b3⟩ := bg_c (P := True) hl
      rw [show (60 : Int32) = Int32.ofNat 60 from rfl, bg_r b1]
      dsimp only [Option.bind_some]
      rw [show (3 : Int32) = Int32.ofNat 3 from rfl, ih 3 x p (by omega) hp _ b3, b2]
      rfl
    rw [if_neg c5] at hr
    rw [if_neg (show ¬ Int32.ofNat k = 5 from on_ne (j := 5) hk (by decide) c5)]
    by_cases c7 : k = 7
    · rw [if_pos c7] at hr
      rw [if_pos (show Int32.ofNat k = 7 by rw [c7]; rfl)]
      obtain ⟨p, hp, hr⟩ := ob hr
      cases hr
      obtain ⟨b1, b2, b3⟩ := bg_c (P := True) hl
      rw [show (81 : Int32) = Int32.ofNat 81 from rfl, bg_r b1]
      dsimp only [Option.bind_some]
      rw [show (4 : Int32) = Int32.ofNat 4 from rfl, ih 4 x p (by omega) hp _ b3, b2]
      rfl
    rw [if_neg c7] at hr
    rw [if_neg (show ¬ Int32.ofNat k = 7 from on_ne (j := 7) hk (by decide) c7)]
    obtain ⟨p, hp, hr⟩ := ob hr
    obtain ⟨s, hs, hr⟩ := ob hr
    cases hr
    obtain ⟨b1, b2, b3⟩ := bg_c (P := True) hl
    have b4 := b3
    rw [← List.append_assoc] at b4
    rw [show (2 : Int32) = Int32.ofNat 2 from rfl, bg_r b1]
    dsimp only [Option.bind_some]
    rw [show (t_R M (l ++ [2])).1 50 50 = M.1 50 50 from rfl, h50, lies_r h51 h50 hkd 8 kd x p hkd hp _ (by rw [List.length_append] at b4; omega)]
    dsimp only [Option.bind_some]
    rw [show (t_R M (l ++ [2] ++ p.2)).1 50 50 = M.1 50 50 from rfl, h50, rings_r h51 h50 hkd 8 kd 1 s hkd hs _ b4, List.append_assoc, b2]
    rfl
def u_act (kd : Nat) (me : Int32) (a : Nat) (x : Int32) : Option (Int32 × List Nat) := if a = 0 then u_hums me 4 kd x else if a = 1 then u_lies kd me 8 kd x else if a = 2 then u_rings kd me 8 kd x else u_tells kd me 8 kd x
theorem act_same (x : Int32) : ∀ kd a : Nat, kd < 8 → a < 4 → ∃ r, t_from kd me 20 kd a x = some r ∧ u_act kd me a x = some r ∧ r.2.length < 1000000 := by
  intro kd a hk ha
  have hk : kd = 0 ∨ kd = 1 ∨ kd = 2 ∨ kd = 3 ∨ kd = 4 ∨ kd = 5 ∨ kd = 6 ∨ kd = 7 := by omega
  have ha : a = 0 ∨ a = 1 ∨ a = 2 ∨ a = 3 := by omega
  rcases hk with rfl | rfl | rfl | rfl | rfl | rfl | rfl | rfl <;> rcases ha with rfl | rfl | rfl | rfl <;> exact ⟨_, rfl, rfl, Nat.le_of_ble_eq_true rfl⟩
end ACT
section OPS
variable {a b c : Int32}
variable {L : Int32 → Int32 → Int32 → (Nat → Int32) → (Nat → Int32) → Prop}
theorem row_0 {f : Nat → Int32} : t_row f [] = f := by
  funext j
  unfold t_row
  split <;> rfl
theorem tS_0 {M : I_M} (h : M.1 38 3 = 0) : t_S M [] = M := by
  unfold t_S
  rw [row_0, rw_id, show upd (M.1 38) 3 (Int32.ofNat ([] : List Nat).length) = M.1 38 from ?_, rw_id]
  funext j
  unfold upd
  by_cases q : j = 3
  · rw [if_pos q, q, h]
    rfl
  · rw [if_neg q]
theorem tR_0 {M : I_M} (h : M.1 50 49 = 0) : t_R M [] = M := by
  unfold t_R
  rw [row_0, rw_id, show upd (M.1 50) 49 (Int32.ofNat ([] : List Nat).length) = M.1 50 from ?_, rw_id]
  funext j
  unfold upd
  by_cases q : j = 49
  · rw [if_pos q, q, h]
    rfl
  · rw [if_neg q]
theorem op_act : OP L (b_act a b c) (r_act a b c) := by
  intro M h
  have hi := h
  obtain ⟨hLa, hMa, hBe, hFo, hTa, hLw, hHe, hIm, hCh, hVi, hBo, hRa, hSh⟩ := h
  obtain ⟨b1, b2, b3, b4⟩ := hBo
  obtain ⟨n1, n2, n3⟩ := hRa
  have l0 := Int32.toInt_zero
  have l4 : (4 : Int32).toInt = 4 := rfl
  have hN0 : N_ran 0 0 (M.1 40) (M.1 69) := ⟨rfl, by decide, n3⟩
  have hB0 : N_body (M.1 38 1) (M.1 50 46) (M.1 39) (M.1 68) := ⟨b1, b2, b3, b4⟩
  unfold b_act b_Bodies_perform
  rw [e_bhasB]
  dsimp only [Option.bind_some]
  rw [show (i_wI M 38 3 0).1 38 1 = M.1 38 1 from rfl, b1]
  by_cases p : 0 ≤ a.toInt ∧ a.toInt < (M.1 50 46).toInt
  · rw [bo_p p, if_neg (by decide)]
    have na : ((Int32.toNatClampNeg a : Nat) : Int) = a.toInt := by rw [a_n]; omega
    obtain ⟨q1, q2, q3⟩ := b4 (Int32.toNatClampNeg a) (by omega)
    obtain ⟨kd, hkd⟩ : ∃ k : Nat, (M.1 68 (Int32.toNatClampNeg a)).toInt = k := ⟨(M.1 68 (Int32.toNatClampNeg a)).toInt.toNat, by omega⟩
    have ekd : M.1 68 (Int32.toNatClampNeg a) = Int32.ofNat kd := of_k hkd
    -- the reference's start, from any memory of the class
    have R0 : ∀ C : I_M, C.1 50 = M.1 50 → C.1 68 = M.1 68 → r_act a b c C = (if b = (0 : Int32) then Option.bind (r_humsAs 4 (Int32.ofNat kd) c (i_wI (i_wI (i_wI C 50 49 0) 50 50 (Int32.ofNat kd)) 50 51 a)) (fun q5 => some (q5.1, q5.2)) else (if b = (1 : Int32) then Option.bind (r_liesAs 8 (Int32.ofNat kd) c (i_wI (i_wI (i_wI C 50 49 0) 50 50 (Int32.ofNat kd)) 50 51 a)) (fun q7 => some (q7.1, q7.2)) else (if b = (2 : Int32) then Option.bind (r_ringsAs 8 (Int32.ofNat kd) c (i_wI (i_wI (i_wI C 50 49 0) 50 50 (Int32.ofNat kd)) 50 51 a)) (fun q9 => some (q9.1, q9.2)) else (if b = (3 : Int32) then Option.bind (r_tellsAs 8 (Int32.ofNat kd) c (i_wI (i_wI (i_wI C 50 49 0) 50 50 (Int32.ofNat kd)) 50 51 a)) (fun q11 => some (q11.1, q11.2)) else some ((0 : Int32), (i_wI (i_wI (i_wI C 50 49 0) 50 50 (Int32.ofNat kd)) 50 51 a)))))) := by
      intro C c50 c68
      have e46 : (i_wI C 50 49 0).1 50 46 = M.1 50 46 := by
        show C.1 50 46 = _
        rw [c50]
      have e68 : (i_wI C 50 49 0).1 68 = M.1 68 := c68
      unfold r_act
      rw [e_risBody (by rw [e46]; exact b2), e46]
      dsimp only [Option.bind_some]
      rw [bo_p p, if_neg (by decide), g_ok p.1 (by omega), e68, ekd]
    by_cases p0 : b.toInt < 0
    · rw [if_pos (by rw [a_lt]; omega)]
      refine T_bind (T_some (T_some ?_))
      dsimp only
      rw [R0 (i_wI M 38 3 0) rfl rfl, if_neg (by rw [a_eq]; omega), if_neg (fun q => by rw [q] at p0; exact absurd p0 (by decide)), if_neg (fun q => by rw [q] at p0; exact absurd p0 (by decide)), if_neg (fun q => by rw [q] at p0; exact absurd p0 (by decide))]
      exact T_some ⟨rfl, hLa, hMa, hBe, hFo, hTa, hLw, hHe, hIm, hCh, hVi, hB0, hN0, hSh⟩
    rw [if_neg (by rw [a_lt]; omega)]
    by_cases p4 : b.toInt < 4
    · rw [if_pos (by rw [a_lt]; omega)]
      obtain ⟨w, hw⟩ : ∃ n : Nat, b.toInt = n := ⟨b.toInt.toNat, by omega⟩
      have eb : b = Int32.ofNat w := of_k hw
      obtain ⟨r, r1, r2, r3⟩ := act_same (me := a) c kd w (by omega) (by omega)
      obtain ⟨M1, hM1⟩ : ∃ M1, M1 = i_wI (i_wI M 38 3 0) 38 4 a := ⟨_, rfl⟩
      have s0 : t_S M1 [] = M1 := tS_0 (by rw [hM1]; rfl)
      have hb := act_b (M := M1) (kd := kd) (me := a) (by omega) (by rw [hM1]; rfl) p.1 (by omega) (by rw [hM1]; exact q1.trans ekd) 20 kd w c 0 r (by omega) (by omega) r1 (by decide) (by decide) [] (by rw [List.nil_append]; exact r3)
      rw [s0, List.nil_append] at hb
      unfold b_Bodies_own
      rw [show i_wI (i_wI M 38 3 0) 38 4 a = M1 from hM1.symm, show M1.1 38 4 = a by rw [hM1]; rfl, g_ok p.1 (by omega), show M1.1 39 (Int32.toNatClampNeg a) = Int32.ofNat kd by rw [hM1]; exact q1.trans ekd, eb, hb]
      refine T_bind (T_some (T_some ?_))
      dsimp only
      obtain ⟨C, hC⟩ : ∃ C, C = t_S M1 r.2 := ⟨_, rfl⟩
      obtain ⟨K, hK⟩ : ∃ K, K = i_wI (i_wI (i_wI C 50 49 0) 50 50 (Int32.ofNat kd)) 50 51 a := ⟨_, rfl⟩
      have c50 : C.1 50 = M.1 50 := by rw [hC, hM1]; rfl
      have c68 : C.1 68 = M.1 68 := by rw [hC, hM1]; rfl
      have k0 : t_R K [] = K := tR_0 (by rw [hK]; rfl)
      have k51 : K.1 50 51 = a := by rw [hK]; rfl
      have k50 : K.1 50 50 = Int32.ofNat kd := by rw [hK]; rfl
      have hlen : (([] : List Nat) ++ r.2).length < 1000000 := by rw [List.nil_append]; exact r3
      have EQ : ∀ {g : I_M → Option (Int32 × I_M)}, t_RB K r g → g K = some (r.1, t_R K r.2) := by
        intro g hg
        have := hg [] hlen
        rw [k0, List.nil_append] at this
        exact this
      have FIN : INV L (t_R K r.2) := by
        have hN : N_ran (Int32.ofNat r.2.length) (Int32.ofNat r.2.length) (t_row (M.1 40) r.2) (t_row (M.1 69) r.2) := by
          refine ⟨rfl, by rw [a_on (by omega)]; omega, fun k hk => ?_⟩
          unfold t_row
          rw [if_pos hk, if_pos hk]
          cases r.2[k]? with
          | none => exact n3 k hk
          | some y => rfl
        subst hK
        subst hC
        subst hM1
        exact ⟨hLa, hMa, hBe, hFo, hTa, hLw, hHe, hIm, hCh, hVi, hB0, hN, hSh⟩
      rw [← hC, ← eb, R0 C c50 c68, ← hK]
      have hw4 : w = 0 ∨ w = 1 ∨ w = 2 ∨ w = 3 := by omega
      unfold u_act at r2
      rcases hw4 with q | q | q | q
      · subst q
        rw [if_pos rfl] at r2
        rw [if_pos (show b = 0 by rw [eb]; rfl), EQ (hums_r k51 4 kd c r (by omega) r2)]
        exact T_some ⟨rfl, FIN⟩
      · subst q
        rw [if_neg (by decide), if_pos rfl] at r2
        rw [if_neg (show ¬ b = 0 by rw [eb]; decide), if_pos (show b = 1 by rw [eb]; rfl), EQ (lies_r k51 k50 (by omega) 8 kd c r (by omega) r2)]
        exact T_some ⟨rfl, FIN⟩
      · subst q
        rw [if_neg (by decide), if_neg (by decide), if_pos rfl] at r2
        rw [if_neg (show ¬ b = 0 by rw [eb]; decide), if_neg (show ¬ b = 1 by rw [eb]; decide), if_pos (show b = 2 by rw [eb]; rfl), EQ (rings_r k51 k50 (by omega) 8 kd c r (by omega) r2)]
        exact T_some ⟨rfl, FIN⟩
      · subst q
        rw [if_neg (by decide), if_neg (by decide), if_neg (by decide)] at r2
        rw [if_neg (show ¬ b = 0 by rw [eb]; decide), if_neg (show ¬ b = 1 by rw [eb]; decide), if_neg (show ¬ b = 2 by rw [eb]; decide), if_pos (show b = 3 by rw [eb]; rfl), EQ (tells_r k51 k50 (by omega) 8 kd c r (by omega) r2)]
        exact T_some ⟨rfl, FIN⟩
    · rw [if_neg (by rw [a_lt]; omega)]
      refine T_bind (T_some (T_some ?_))
      dsimp only
      rw [R0 (i_wI M 38 3 0) rfl rfl, if_neg (fun q => by rw [q] at p4; exact absurd (by decide) p4), if_neg (fun q => by rw [q] at p4; exact absurd (by decide) p4), if_neg (fun q => by rw [q] at p4; exact absurd (by decide) p4), if_neg (fun q => by rw [q] at p4; exact absurd (by decide) p4)]
      exact T_some ⟨rfl, hLa, hMa, hBe, hFo, hTa, hLw, hHe, hIm, hCh, hVi, hB0, hN0, hSh⟩
  · rw [bo_n p, if_pos rfl]
    refine T_bind (T_some (T_some ?_))
    dsimp only
    have e46 : (i_wI (i_wI M 38 3 0) 50 49 0).1 50 46 = M.1 50 46 := rfl
    unfold r_act
    rw [e_risBody (by rw [e46]; exact b2), e46]
    dsimp only [Option.bind_some]
    rw [bo_n p, if_pos rfl]
    exact T_some ⟨rfl, hLa, hMa, hBe, hFo, hTa, hLw, hHe, hIm, hCh, hVi, hB0, hN0, hSh⟩
end OPS
