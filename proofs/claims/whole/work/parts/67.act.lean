/-! ===== part 67: act, on ===== -/
def t_body (rc : Nat → Nat → Int32 → Option (Int32 × List Nat)) (kd : Nat) (me : Int32) (b : Nat) (x : Int32) : Option (Int32 × List Nat) :=
  if b = 1 then some (x + me, [])
  else if b = 2 then Option.bind (rc kd 1 x) (fun p => Option.bind (rc kd 2 1) (fun q => some (p.1 - q.1, p.2 ++ q.2)))
  else if b = 10 then Option.bind (rc kd 0 x) (fun p => some (p.1 * 2, p.2))
  else if b = 11 then some (x ^^^ me, [])
  else if b = 20 then Option.bind (rc 0 0 x) (fun p => some (p.1 + 3, p.2))
  else if b = 30 then Option.bind (rc 0 1 x) (fun p => some (-p.1, p.2))
  else if b = 40 then Option.bind (rc 2 2 x) (fun p => some (p.1 * 3, p.2))
  else if b = 41 then Option.bind (rc 2 1 (x + 1)) (fun p => some (p.1, p.2))
  else if b = 50 then Option.bind (rc 1 2 x) (fun p => Option.bind (rc kd 0 2) (fun q => some (p.1 - q.1, p.2 ++ q.2)))
  else if b = 60 then Option.bind (rc 3 3 x) (fun p => some (p.1 ^^^ 5, p.2))
  else if b = 70 then Option.bind (rc 0 0 x) (fun p => some (p.1 * 2, p.2))
  else if b = 80 then Option.bind (rc 4 1 x) (fun p => Option.bind (rc kd 2 2) (fun q => some (p.1 + q.1, p.2 ++ q.2)))
  else if b = 81 then Option.bind (rc 4 3 x) (fun p => some (p.1 - 1, p.2))
  else none
def t_from (kd : Nat) (me : Int32) : Nat → Nat → Nat → Int32 → Option (Int32 × List Nat)
  | 0, _, _, _ => none
  | n + 1, k, a, x => Option.bind (t_body (t_from kd me n) kd me (t_bf k a) x) (fun r => some (r.1, t_bf k a :: r.2))
def u_hums (me : Int32) : Nat → Nat → Int32 → Option (Int32 × List Nat)
  | 0, _, _ => none
  | n + 1, k, x => if k = 1 then Option.bind (u_hums me n 0 x) (fun r => some (r.1 + 3, 20 :: r.2)) else if k = 4 then Option.bind (u_hums me n 0 x) (fun r => some (r.1 + 3, 20 :: r.2)) else if k = 7 then Option.bind (u_hums me n 0 x) (fun r => some (r.1 + 3, 20 :: r.2)) else if k = 6 then Option.bind (u_hums me n 0 x) (fun r => some (r.1 * 2, 70 :: r.2)) else some (x + me, [1])
def u_rings (kd : Nat) (me : Int32) : Nat → Nat → Int32 → Option (Int32 × List Nat)
  | 0, _, _ => none
  | n + 1, k, x => if k = 3 then Option.bind (u_rings kd me n 2 x) (fun r => some (r.1 * 3, 40 :: r.2)) else if k = 5 then Option.bind (u_rings kd me n 2 x) (fun r => some (r.1 * 3, 40 :: r.2)) else if k = 4 then Option.bind (u_rings kd me n 1 x) (fun r => Option.bind (u_hums me 4 kd 2) (fun s => some (r.1 - s.1, 50 :: (r.2 ++ s.2)))) else if k = 7 then Option.bind (u_rings kd me n 1 x) (fun r => Option.bind (u_hums me 4 kd 2) (fun s => some (r.1 - s.1, 50 :: (r.2 ++ s.2)))) else some (x ^^^ me, [11])
def u_lies (kd : Nat) (me : Int32) : Nat → Nat → Int32 → Option (Int32 × List Nat)
  | 0, _, _ => none
  | n + 1, k, x => if k = 3 then Option.bind (u_lies kd me n 2 (x + 1)) (fun r => some (r.1, 41 :: r.2)) else if k = 5 then Option.bind (u_lies kd me n 2 (x + 1)) (fun r => some (r.1, 41 :: r.2)) else if k = 2 then Option.bind (u_lies kd me n 0 x) (fun r => some (-r.1, 30 :: r.2)) else if k = 7 then Option.bind (u_lies kd me n 4 x) (fun r => Option.bind (u_rings kd me 8 kd 2) (fun s => some (r.1 + s.1, 80 :: (r.2 ++ s.2)))) else Option.bind (u_hums me 4 kd x) (fun r => some (r.1 * 2, 10 :: r.2))
def u_tells (kd : Nat) (me : Int32) : Nat → Nat → Int32 → Option (Int32 × List Nat)
  | 0, _, _ => none
  | n + 1, k, x => if k = 5 then Option.bind (u_tells kd me n 3 x) (fun r => some (r.1 ^^^ 5, 60 :: r.2)) else if k = 7 then Option.bind (u_tells kd me n 4 x) (fun r => some (r.1 - 1, 81 :: r.2)) else Option.bind (u_lies kd me 8 kd x) (fun r => Option.bind (u_rings kd me 8 kd 1) (fun s => some (r.1 - s.1, 2 :: (r.2 ++ s.2))))
theorem on_eq {k j : Nat} (hk : k < 1000) (hj : j < 1000) : (Int32.ofNat k = Int32.ofNat j) ↔ k = j := by
  rw [a_eq, a_on (by omega), a_on (by omega)]
  omega
section ACT
variable {M : I_M} {kd : Nat} {me : Int32}
/-- a part's answer, and what it leaves -/
def t_B (M : I_M) (r : Int32 × List Nat) (g : I_M → Option (Int32 × I_M)) : Prop := ∀ l : List Nat, (l ++ r.2).length < 1000000 → g (t_S M l) = some (r.1, t_S M (l ++ r.2))
def t_RB (M : I_M) (r : Int32 × List Nat) (g : I_M → Option (Int32 × I_M)) : Prop := ∀ l : List Nat, (l ++ r.2).length < 1000000 → g (t_R M l) = some (r.1, t_R M (l ++ r.2))
theorem act_b (hk : kd < 8) (h1 : M.1 38 4 = me) (h2 : 0 ≤ me.toInt) (h3 : me.toInt < 50) (h4 : M.1 39 (Int32.toNatClampNeg me) = Int32.ofNat kd) : ∀ (n k a : Nat) (x op : Int32) (r : Int32 × List Nat), k < 8 → a < 4 → t_from kd me n k a x = some r → 0 ≤ op.toInt → op.toInt + n ≤ 40 → t_B M r (b_Bodies_from n (Int32.ofNat k) (Int32.ofNat a) x op) := by
  intro n
  induction n with
  | zero => exact fun k a x op r _ _ h => by cases h
  | succ n ih =>
    intro k a x op r hk8 ha4 hr ho ho2 l hl
    obtain ⟨p, hp, hr⟩ := ob hr
    cases hr
    have hl : (l ++ t_bf k a :: p.2).length < 1000000 := hl
    rw [List.length_append, List.length_cons] at hl
    have hl3 : l.length + (p.2.length + 1) < 1000000 := hl
    show b_Bodies_from_b (b_Bodies_from n) (Int32.ofNat k) (Int32.ofNat a) x op (t_S M l) = some (p.1, t_S M (l ++ t_bf k a :: p.2))
    have l40 : (40 : Int32).toInt = 40 := rfl
    have eo : (op + 1).toInt = op.toInt + 1 := a_a1 (by omega)
    unfold b_Bodies_from_b
    rw [bf_e k a hk8 ha4]
    dsimp only [Option.bind_some]
    have hb1000 : t_bf k a < 1000 := by
      have hk : k = 0 ∨ k = 1 ∨ k = 2 ∨ k = 3 ∨ k = 4 ∨ k = 5 ∨ k = 6 ∨ k = 7 := by omega
      have ha : a = 0 ∨ a = 1 ∨ a = 2 ∨ a = 3 := by omega
      rcases hk with rfl | rfl | rfl | rfl | rfl | rfl | rfl | rfl <;> rcases ha with rfl | rfl | rfl | rfl <;> decide
    have hb0 : t_bf k a ≠ 0 := by
      have hk : k = 0 ∨ k = 1 ∨ k = 2 ∨ k = 3 ∨ k = 4 ∨ k = 5 ∨ k = 6 ∨ k = 7 := by omega
      have ha : a = 0 ∨ a = 1 ∨ a = 2 ∨ a = 3 := by omega
      rcases hk with rfl | rfl | rfl | rfl | rfl | rfl | rfl | rfl <;> rcases ha with rfl | rfl | rfl | rfl <;> decide
    generalize t_bf k a = b at *
    rw [if_neg (show ¬ Int32.ofNat b = 0 from fun h => hb0 ((on_eq hb1000 (by omega)).mp h)), if_pos (by rw [a_lt]; omega), bg_b (by omega)]
    dsimp only [Option.bind_some]
    have hl2 : (l ++ [b]).length = l.length + 1 := by simp
    have app : ∀ q : List Nat, l ++ [b] ++ q = l ++ b :: q := fun q => by simp
    have OWN : ∀ (a' : Nat) (y : Int32) (q : Int32 × List Nat) (l' : List Nat), a' < 4 → t_from kd me n kd a' y = some q → (l' ++ q.2).length < 1000000 → b_Bodies_own (b_Bodies_from n) (Int32.ofNat a') y (op + 1) (t_S M l') = some (q.1, t_S M (l' ++ q.2)) := by
      intro a' y q l' ha' hq hlen
      unfold b_Bodies_own
      rw [show (t_S M l').1 38 4 = M.1 38 4 from rfl, h1, g_ok h2 (by omega), show (t_S M l').1 39 = M.1 39 from rfl, h4, ih kd a' y (op + 1) q hk ha' hq (by omega) (by omega) l' hlen]
      rfl
    have ABV : ∀ (k' k2 a' : Nat) (y : Int32) (q : Int32 × List Nat) (l' : List Nat), k' < 8 → i_x103 k' = Int32.ofNat k2 → k2 < 8 → a' < 4 → t_from kd me n k2 a' y = some q → (l' ++ q.2).length < 1000000 → b_Bodies_above (b_Bodies_from n) (Int32.ofNat k') (Int32.ofNat a') y (op + 1) (t_S M l') = some (q.1, t_S M (l' ++ q.2)) := by
      intro k' k2 a' y q l' hk' hx hk2 ha' hq hlen
      have ek : (Int32.ofNat k').toInt = k' := a_on (by omega)
      unfold b_Bodies_above
      rw [g_ok (by omega) (by omega), a_k ek, hx, ih k2 a' y (op + 1) q hk2 ha' hq (by omega) (by omega) l' hlen]
      rfl
    have NE : ∀ j : Nat, j < 1000 → b ≠ j → ¬ Int32.ofNat b = Int32.ofNat j := fun j hj h => fun h2 => h ((on_eq hb1000 hj).mp h2)
    -- one part
    have ONE : ∀ {g : I_M → Option (Int32 × I_M)} {f : Int32 → Int32} {q : Int32 × List Nat}, (∀ l' : List Nat, (l' ++ q.2).length < 1000000 → g (t_S M l') = some (q.1, t_S M (l' ++ q.2))) → p = (f q.1, q.2) → Option.bind (Option.bind (g (t_S M (l ++ [b]))) (fun q3 => some (f q3.1, q3.2))) (fun q5 => some (q5.1, q5.2)) = some (p.1, t_S M (l ++ b :: p.2)) := by
      intro g f q hg hp
      have e : p.2.length = q.2.length := by rw [hp]
      rw [hg _ (by rw [List.length_append, hl2]; omega), app, hp]
      rfl
    have TWO : ∀ {g g2 : I_M → Option (Int32 × I_M)} {f : Int32 → Int32 → Int32} {q q2 : Int32 × List Nat}, (∀ l' : List Nat, (l' ++ q.2).length < 1000000 → g (t_S M l') = some (q.1, t_S M (l' ++ q.2))) → (∀ l' : List Nat, (l' ++ q2.2).length < 1000000 → g2 (t_S M l') = some (q2.1, t_S M (l' ++ q2.2))) → p = (f q.1 q2.1, q.2 ++ q2.2) → Option.bind (Option.bind (g (t_S M (l ++ [b]))) (fun q3 => Option.bind (g2 q3.2) (fun q4 => some (f q3.1 q4.1, q4.2)))) (fun q5 => some (q5.1, q5.2)) = some (p.1, t_S M (l ++ b :: p.2)) := by
      intro g g2 f q q2 hg hg2 hp
      have e : p.2.length = q.2.length + q2.2.length := by rw [hp]; exact List.length_append
      rw [hg _ (by rw [List.length_append, hl2]; omega)]
      dsimp only [Option.bind_some]
      rw [hg2 _ (by rw [List.length_append, List.length_append, hl2]; omega), List.append_assoc, app, hp]
      rfl
    unfold t_body at hp
    unfold b_Bodies_runBody
    by_cases c1 : b = 1
    · subst c1
      rw [if_pos rfl] at hp
      cases hp
      rw [if_pos (show Int32.ofNat 1 = 1 from rfl), show (t_S M (l ++ [1])).1 38 4 = M.1 38 4 from rfl, h1]
      rfl
    rw [if_neg c1] at hp
    rw [if_neg (show ¬ Int32.ofNat b = 1 from NE 1 (by omega) c1)]
    by_cases c2 : b = 2
    · rw [if_pos c2] at hp
      obtain ⟨q, hq, hp⟩ := ob hp
      obtain ⟨q2, hq2, hp⟩ := ob hp
      rw [if_pos (show Int32.ofNat b = 2 by rw [c2]; rfl)]
      exact TWO (f := fun u v => u - v) (fun l' => OWN 1 x q l' (by omega) hq) (fun l' => OWN 2 1 q2 l' (by omega) hq2) (Option.some.inj hp).symm
    rw [if_neg c2] at hp
    rw [if_neg (show ¬ Int32.ofNat b = 2 from NE 2 (by omega) c2)]
    by_cases c10 : b = 10
    · rw [if_pos c10] at hp
      obtain ⟨q, hq, hp⟩ := ob hp
      rw [if_pos (show Int32.ofNat b = 10 by rw [c10]; rfl)]
      exact ONE (f := fun u => u * 2) (fun l' => OWN 0 x q l' (by omega) hq) (Option.some.inj hp).symm
    rw [if_neg c10] at hp
    rw [if_neg (show ¬ Int32.ofNat b = 10 from NE 10 (by omega) c10)]
    by_cases c11 : b = 11
    · subst c11
      rw [if_pos rfl] at hp
      cases hp
      rw [if_pos (show Int32.ofNat 11 = 11 from rfl), show (t_S M (l ++ [11])).1 38 4 = M.1 38 4 from rfl, h1]
      rfl
    rw [if_neg c11] at hp
    rw [if_neg (show ¬ Int32.ofNat b = 11 from NE 11 (by omega) c11)]
    by_cases c20 : b = 20
    · rw [if_pos c20] at hp
      obtain ⟨q, hq, hp⟩ := ob hp
      rw [if_pos (show Int32.ofNat b = 20 by rw [c20]; rfl)]
      exact ONE (f := fun u => u + 3) (fun l' => ABV 1 0 0 x q l' (by omega) rfl (by omega) (by omega) hq) (Option.some.inj hp).symm
    rw [if_neg c20] at hp
    rw [if_neg (show ¬ Int32.ofNat b = 20 from NE 20 (by omega) c20)]
    by_cases c30 : b = 30
    · rw [if_pos c30] at hp
      obtain ⟨q, hq, hp⟩ := ob hp
      rw [if_pos (show Int32.ofNat b = 30 by rw [c30]; rfl)]
      exact ONE (f := fun u => -u) (fun l' => ABV 2 0 1 x q l' (by omega) rfl (by omega) (by omega) hq) (Option.some.inj hp).symm
    rw [if_neg c30] at hp
    rw [if_neg (show ¬ Int32.ofNat b = 30 from NE 30 (by omega) c30)]
    by_cases c40 : b = 40
    · rw [if_pos c40] at hp
      obtain ⟨q, hq, hp⟩ := ob hp
      rw [if_pos (show Int32.ofNat b = 40 by rw [c40]; rfl)]
      exact ONE (f := fun u => u * 3) (fun l' => ABV 3 2 2 x q l' (by omega) rfl (by omega) (by omega) hq) (Option.some.inj hp).symm
    rw [if_neg c40] at hp
    rw [if_neg (show ¬ Int32.ofNat b = 40 from NE 40 (by omega) c40)]
    by_cases c41 : b = 41
    · rw [if_pos c41] at hp
      obtain ⟨q, hq, hp⟩ := ob hp
      rw [if_pos (show Int32.ofNat b = 41 by rw [c41]; rfl)]
      exact ONE (f := fun u => u) (fun l' => ABV 3 2 1 (x + 1) q l' (by omega) rfl (by omega) (by omega) hq) (Option.some.inj hp).symm
    rw [if_neg c41] at hp
    rw [if_neg (show ¬ Int32.ofNat b = 41 from NE 41 (by omega) c41)]
    by_cases c50 : b = 50
    · rw [if_pos c50] at hp
      obtain ⟨q, hq, hp⟩ := ob hp
      obtain ⟨q2, hq2, hp⟩ := ob hp
      rw [if_pos (show Int32.ofNat b = 50 by rw [c50]; rfl)]
      exact TWO (f := fun u v => u - v) (fun l' => ABV 4 1 2 x q l' (by omega) rfl (by omega) (by omega) hq) (fun l' => OWN 0 2 q2 l' (by omega) hq2) (Option.some.inj hp).symm
    rw [if_neg c50] at hp
    rw [if_neg (show ¬ Int32.ofNat b = 50 from NE 50 (by omega) c50)]
    by_cases c60 : b = 60
    · rw [if_pos c60] at hp
      obtain ⟨q, hq, hp⟩ := ob hp
      rw [if_pos (show Int32.ofNat b = 60 by rw [c60]; rfl)]
      exact ONE (f := fun u => u ^^^ 5) (fun l' => ABV 5 3 3 x q l' (by omega) rfl (by omega) (by omega) hq) (Option.some.inj hp).symm
    rw [if_neg c60] at hp
    rw [if_neg (show ¬ Int32.ofNat b = 60 from NE 60 (by omega) c60)]
    by_cases c70 : b = 70
    · rw [if_pos c70] at hp
      obtain ⟨q, hq, hp⟩ := ob hp
      rw [if_pos (show Int32.ofNat b = 70 by rw [c70]; rfl)]
      exact ONE (f := fun u => u * 2) (fun l' => ABV 6 0 0 x q l' (by omega) rfl (by omega) (by omega) hq) (Option.some.inj hp).symm
    rw [if_neg c70] at hp
    rw [if_neg (show ¬ Int32.ofNat b = 70 from NE 70 (by omega) c70)]
    by_cases c80 : b = 80
    · rw [if_pos c80] at hp
      obtain ⟨q, hq, hp⟩ := ob hp
      obtain ⟨q2, hq2, hp⟩ := ob hp
      rw [if_pos (show Int32.ofNat b = 80 by rw [c80]; rfl)]
      exact TWO (f := fun u v => u + v) (fun l' => ABV 7 4 1 x q l' (by omega) rfl (by omega) (by omega) hq) (fun l' => OWN 2 2 q2 l' (by omega) hq2) (Option.some.inj hp).symm
    rw [if_neg c80] at hp
    rw [if_neg (show ¬ Int32.ofNat b = 80 from NE 80 (by omega) c80)]
    by_cases c81 : b = 81
    · rw [if_pos c81] at hp
      obtain ⟨q, hq, hp⟩ := ob hp
      rw [if_pos (show Int32.ofNat b = 81 by rw [c81]; rfl)]
      exact ONE (f := fun u => u - 1) (fun l' => ABV 7 4 3 x q l' (by omega) rfl (by omega) (by omega) hq) (Option.some.inj hp).symm
    rw [if_neg c81] at hp
    cases hp
end ACT
