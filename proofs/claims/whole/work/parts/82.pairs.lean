/-! ===== part 82: bits of ints; pairs of places; which hearings are so ===== -/
/-- bit i of an int -/
def i_b (x : Int32) (i : Nat) : Bool := x.toBitVec.getLsbD i
theorem b_ext {x y : Int32} (h : ∀ i, i < 32 → i_b x i = i_b y i) : x = y := Int32.toBitVec_inj.mp (BitVec.eq_of_getLsbD_eq h)
theorem b_ext2 {x y : Int32} (h : ∀ i, i < 32 → (i_b x i = true ↔ i_b y i = true)) : x = y := b_ext (fun i hi => by
  have := h i hi
  cases e : i_b x i <;> cases e2 : i_b y i <;> simp_all)
theorem b_or {x y : Int32} {i : Nat} : i_b (x ||| y) i = (i_b x i || i_b y i) := by
  unfold i_b
  rw [Int32.toBitVec_or, BitVec.getLsbD_or]
theorem b_and {x y : Int32} {i : Nat} : i_b (x &&& y) i = (i_b x i && i_b y i) := by
  unfold i_b
  rw [Int32.toBitVec_and, BitVec.getLsbD_and]
theorem b_on {x i : Nat} (h : i < 32) : i_b (Int32.ofNat x) i = x.testBit i := by
  unfold i_b
  rw [Int32.toBitVec_ofNat', BitVec.getLsbD_ofNat, decide_eq_true h, Bool.true_and]
theorem b_0 {i : Nat} : i_b 0 i = false := by
  unfold i_b
  rw [show (0 : Int32).toBitVec = 0#32 from rfl, BitVec.getLsbD_zero]
theorem b_not {x : Int32} {i : Nat} (h : i < 32) : i_b (x ^^^ (-1 : Int32)) i = !(i_b x i) := by
  unfold i_b
  rw [Int32.toBitVec_xor, BitVec.getLsbD_xor, show (-1 : Int32).toBitVec = BitVec.allOnes 32 from rfl, BitVec.getLsbD_allOnes, decide_eq_true h, Bool.xor_true]
theorem b_sh : ∀ c, c < 32 → ∀ i, i < 32 → i_b ((1 : Int32) <<< (Int32.ofNat c &&& 31)) i = decide (i = c) := by decide +kernel
theorem b_lw : ∀ n, n < 26 → ∀ i, i < 32 → i_b (((1 : Int32) <<< (Int32.ofNat n &&& 31)) - (1 : Int32)) i = decide (i < n) := by decide +kernel
theorem b_zero {x : Int32} : (x = 0) ↔ ∀ i, i < 32 → i_b x i = false := by
  refine ⟨fun h i _ => by rw [h, b_0], fun h => b_ext (fun i hi => by rw [h i hi, b_0])⟩
theorem o_or {x y : Nat} : Int32.ofNat x ||| Int32.ofNat y = Int32.ofNat (x ||| y) := b_ext (fun i hi => by rw [b_or, b_on hi, b_on hi, b_on hi, Nat.testBit_or])
theorem o_sh : ∀ b, b < 11 → (1 : Int32) <<< (Int32.ofNat b &&& 31) = Int32.ofNat (2 ^ b) := by decide +kernel
/-- with p, from and to which place the others go -/
def v_lo (n p : Nat) : Nat := if n = 1 then p else (p / 10 + 1) * 10
def v_hi (n P p : Nat) : Nat := if n = 1 then p + 1 else P
def v_seg (p a k : Nat) : List (Nat × Nat) := (List.range' a (k - a)).map (fun o => (p, o))
def v_pre (n P k : Nat) : List (Nat × Nat) := (List.range k).flatMap (fun p => v_seg p (v_lo n p) (v_hi n P p))
theorem seg_0 {p a : Nat} : v_seg p a a = [] := by
  unfold v_seg
  rw [Nat.sub_self]
  rfl
theorem seg_s {p a k : Nat} (h : a ≤ k) : v_seg p a (k + 1) = v_seg p a k ++ [(p, k)] := by
  unfold v_seg
  rw [show k + 1 - a = (k - a) + 1 by omega, List.range'_1_concat, List.map_append, show a + (k - a) = k by omega]
  rfl
theorem pre_s {n P k : Nat} : v_pre n P (k + 1) = v_pre n P k ++ v_seg k (v_lo n k) (v_hi n P k) := by
  unfold v_pre
  rw [List.range_succ, List.flatMap_append]
  simp
/-- a pair is one of two places in unlike cells, or one place alone -/
def v_pl (n P : Nat) (w : Nat × Nat) : Prop := w.1 < P ∧ w.2 < P ∧ ((n = 1 ∧ w.2 = w.1) ∨ (n = 2 ∧ w.1 / 10 < w.2 / 10))
theorem pl_mem {n nc k : Nat} (hn : n = 1 ∨ n = 2) (hk : k ≤ 10 * nc) : ∀ w, w ∈ v_pre n (10 * nc) k → v_pl n (10 * nc) w := by
  intro w hw
  unfold v_pre at hw
  rw [List.mem_flatMap] at hw
  obtain ⟨p, hp, hw⟩ := hw
  rw [List.mem_range] at hp
  unfold v_seg at hw
  rw [List.mem_map] at hw
  obtain ⟨o, ho, rfl⟩ := hw
  rw [List.mem_range'_1] at ho
  unfold v_lo v_hi at ho
  refine ⟨by dsimp only; omega, ?_, ?_⟩
  · dsimp only
    rcases hn with rfl | rfl
    · rw [if_pos rfl, if_pos rfl] at ho
      omega
    · rw [if_neg (by decide), if_neg (by decide)] at ho
      omega
  · dsimp only
    rcases hn with rfl | rfl
    · rw [if_pos rfl, if_pos rfl] at ho
      exact Or.inl ⟨rfl, by omega⟩
    · rw [if_neg (by decide), if_neg (by decide)] at ho
      exact Or.inr ⟨rfl, by omega⟩
/-- a hearing is so, if bells lie at p and o -/
def v_so (M : I_M) (x p o : Nat) : Bool := decide (h_hd M (if o = p then v_ld M x p else v_ld M x p + v_ld M x o) = M.1 61 (3 * x + 2))
/-- those that are not so: bits -/
def v_ln (M : I_M) (p o n : Nat) : Nat := i_it (fun x s => if v_so M x p o = true then s else s ||| 2 ^ x) n 0
def v_li (M : I_M) (p o : Nat) : Nat := v_ln M p o (M.1 50 24).toInt.toNat
/-- all are so but one -/
def v_ok (M : I_M) (sk : Int) (w : Nat × Nat) : Bool := decide (∀ x, x < (M.1 50 24).toInt.toNat → (x : Int) ≠ sk → v_so M x w.1 w.2 = true)
section VS
variable {M : I_M} {p o : Nat}
theorem ln_lt : ∀ n, v_ln M p o n < 2 ^ n := by
  intro n
  induction n with
  | zero => exact (show (0 : Nat) < 2 ^ 0 by decide)
  | succ n ih =>
    show (if v_so M n p o = true then v_ln M p o n else v_ln M p o n ||| 2 ^ n) < 2 ^ (n + 1)
    have h1 : v_ln M p o n < 2 ^ (n + 1) := by rw [Nat.pow_succ]; omega
    split
    · exact h1
    · exact n_lt h1 (Nat.pow_lt_pow_right (by omega) (by omega))
theorem ln_bit {i : Nat} : ∀ n, (v_ln M p o n).testBit i = true ↔ i < n ∧ ¬ v_so M i p o = true := by
  intro n
  induction n with
  | zero =>
    show (0 : Nat).testBit i = true ↔ _
    rw [Nat.zero_testBit]
    exact ⟨fun h => (by cases h), fun h => absurd h.1 (by omega)⟩
  | succ n ih =>
    show (if v_so M n p o = true then v_ln M p o n else v_ln M p o n ||| 2 ^ n).testBit i = true ↔ _
    by_cases q : v_so M n p o = true
    · rw [if_pos q, ih]
      refine ⟨fun h => ⟨by omega, h.2⟩, fun h => ⟨?_, h.2⟩⟩
      have : i ≠ n := fun e => h.2 (e ▸ q)
      omega
    · rw [if_neg q, Nat.testBit_or, Bool.or_eq_true, ih, Nat.testBit_two_pow, decide_eq_true_eq]
      refine ⟨fun h => ?_, fun h => ?_⟩
      · rcases h with h | h
        · exact ⟨by omega, h.2⟩
        · exact ⟨by omega, h ▸ q⟩
      · by_cases e : n = i
        · exact Or.inr e
        · exact Or.inl ⟨by omega, h.2⟩
theorem li_ok {sk u : Int32} (h10 : (M.1 50 24).toInt.toNat ≤ 10) (hu : (sk = -1 ∧ u = 0) ∨ (0 ≤ sk.toInt ∧ sk.toInt < 10 ∧ u = (1 : Int32) <<< (sk &&& 31))) : (Int32.ofNat (v_li M p o) &&& (u ^^^ (-1 : Int32)) = 0) ↔ v_ok M sk.toInt (p, o) = true := by
  unfold v_ok v_li
  rw [b_zero, decide_eq_true_eq]
  have ub : ∀ i, i < 32 → (i_b u i = true ↔ (i : Int) = sk.toInt) := by
    intro i hi
    rcases hu with ⟨h1, h2⟩ | ⟨h1, h2, h3⟩
    · rw [h1, h2, b_0, show (-1 : Int32).toInt = -1 from rfl]
      exact ⟨fun h => (by cases h), fun h => by omega⟩
    · obtain ⟨c, hc⟩ : ∃ c : Nat, sk.toInt = c := ⟨sk.toInt.toNat, by omega⟩
      rw [h3, of_k hc, b_sh c (by omega) i hi, decide_eq_true_eq, a_on (by omega)]
      omega
  refine ⟨fun h x hx hxs => ?_, fun h i hi => ?_⟩
  · have := h x (by omega)
    rw [b_and, b_not (by omega), b_on (by omega)] at this
    refine Classical.byContradiction (fun hn => ?_)
    rw [(ln_bit _).mpr ⟨hx, hn⟩, Bool.true_and] at this
    have hub := ub x (by omega)
    cases e : i_b u x with
    | true => exact hxs (hub.mp e)
    | false => rw [e] at this; cases this
  · rw [b_and, b_not hi, b_on hi]
    cases e : (v_ln M p o (M.1 50 24).toInt.toNat).testBit i with
    | false => rfl
    | true =>
      obtain ⟨e1, e2⟩ := (ln_bit _).mp e
      have hub := ub i hi
      cases e3 : i_b u i with
      | true => rfl
      | false =>
        refine absurd (h i e1 (fun e4 => ?_)) e2
        rw [hub.mpr e4] at e3
        cases e3
theorem li_lt (h10 : (M.1 50 24).toInt.toNat ≤ 10) : v_li M p o < 1024 := by
  have h1 := ln_lt (M := M) (p := p) (o := o) (M.1 50 24).toInt.toNat
  have h2 := Nat.pow_le_pow_right (n := 2) (by omega) h10
  have e : (2 : Nat) ^ 10 = 1024 := by decide
  unfold v_li
  omega
end VS
theorem hd_fv {M N : I_M} (h : fv M N) {l : Int32} : h_hd N l = h_hd M l := by
  unfold h_hd
  rw [h.1 51 58 rfl]
section FIT
variable {M N : I_M} {nc nh : Nat}
theorem so_b (h : INV L_law M) (hh : (M.1 50 24).toInt = nh) (hf : fv M N) (ht : ∀ x p, x < nh → p < 10 * nc → N.1 23 (250 * x + p) = v_ld M x p) (h25 : nc ≤ 25) {x p o : Nat} (hx : x < nh) (hp : p < 10 * nc) (ho : o < 10 * nc) {l1 l2 l3 : Int32} (e1 : l1.toInt = x) (e2 : l2.toInt = p) (e3 : l3.toInt = o) : b_Search_isSo l1 l2 l3 N = some (i_bo (v_so M x p o = true), N) := by
  have h10 : nh ≤ 10 := by have := h.2.2.2.2.2.2.1.2.2.1; omega
  obtain ⟨r1, r2, r3, r4, r5, r6, r7, r8, r9, r10⟩ := h.2.2.2.2.2.2.1.2.2.2 x (by omega)
  have l250 : (250 : Int32).toInt = 250 := rfl
  have k1 : (l1 * 250).toInt = 250 * (x : Int) := by rw [a_mul] <;> rw [l250, e1] <;> omega
  have k2 : (l1 * 250 + l2).toInt = ((250 * x + p : Nat) : Int) := by rw [a_add] <;> rw [k1, e2] <;> omega
  have k3 : (l1 * 250 + l3).toInt = ((250 * x + o : Nat) : Int) := by rw [a_add] <;> rw [k1, e3] <;> omega
  have B36 : ∀ y, b_Search_isSo_B36 l1 y N = some (i_bo (h_hd M y = M.1 61 (3 * x + 2)), N) := by
    intro y
    unfold b_Search_isSo_B36
    rw [hd_b (fv_inv h hf)]
    dsimp only [Option.bind_some]
    rw [g_ok (by omega) (by omega), a_k e1, hf.1 21 x rfl, hd_fv hf, r3]
    by_cases q : h_hd M y = M.1 61 (3 * x + 2)
    · rw [if_pos q, bo_p q]
    · rw [if_neg q, bo_n q]
  unfold b_Search_isSo v_so
  rw [g_ok (by omega) (by omega), a_k k2, ht x p hx hp]
  by_cases q : o = p
  · rw [if_pos (by rw [a_eq]; omega), if_pos q, B36]
    congr 3
    simp
  · rw [if_neg (by rw [a_eq]; omega), if_neg q, g_ok (by omega) (by omega), a_k k3, ht x o hx ho]
    show b_Search_isSo_B36 l1 _ N = _
    rw [B36]
    congr 3
    simp
theorem fits_b (h : INV L_law M) (hh : (M.1 50 24).toInt = nh) (hf : fv M N) (ht : ∀ x p, x < nh → p < 10 * nc → N.1 23 (250 * x + p) = v_ld M x p) (h25 : nc ≤ 25) {p o : Nat} (hp : p < 10 * nc) (ho : o < 10 * nc) {l1 l2 sk : Int32} (e1 : l1.toInt = p) (e2 : l2.toInt = o) : b_Search_fits l1 l2 sk N = some (i_bo (v_ok M sk.toInt (p, o) = true), N) := by
  have h10 : nh ≤ 10 := by have := h.2.2.2.2.2.2.1.2.2.1; omega
  have e18 : N.1 18 3 = M.1 50 24 := by rw [hf.1 18 3 rfl]; exact h.2.2.2.2.2.2.1.1
  unfold b_Search_fits
  refine T_eq (T_for (N := nh) (a := 0) (f := b_Search_fits_L3 l1 l2 sk) (fun k N' => N' = N ∧ ∀ x, x < k → (x : Int) ≠ sk.toInt → v_so M x p o = true) (by omega) ?_ ?_ (by unfold i_F; omega) (by omega) rfl ⟨rfl, fun x hx => absurd hx (by omega)⟩)
  · intro m k i N' g1 g2 g3 g4 g5
    obtain ⟨rfl, t1⟩ := g4
    unfold b_Search_fits_L3
    rw [e18, if_pos (by rw [a_lt]; omega)]
    by_cases q : i = sk
    · rw [if_pos q]
      refine g5 _ ⟨rfl, fun x hx hxs => ?_⟩
      by_cases y : x = k
      · refine absurd ?_ hxs
        rw [y, ← q, g1]
      · exact t1 x (by omega) hxs
    · rw [if_neg q, so_b h hh hf ht h25 g3 hp ho g1 e1 e2]
      dsimp only [Option.bind_some]
      by_cases z : v_so M k p o = true
      · rw [bo_p z, if_neg (by decide)]
        refine g5 _ ⟨rfl, fun x hx hxs => ?_⟩
        by_cases y : x = k
        · rw [y]
          exact z
        · exact t1 x (by omega) hxs
      · rw [bo_n z, if_pos rfl]
        refine T_some ?_
        rw [bo_n (fun hk => z ?_)]
        unfold v_ok at hk
        rw [decide_eq_true_eq] at hk
        exact hk k (by omega) (fun e => q (a_eq.mpr (by omega)))
  · intro m i N' g1 g2
    obtain ⟨rfl, t1⟩ := g2
    unfold b_Search_fits_L3
    rw [e18, if_neg (by rw [a_lt]; omega)]
    refine T_some ?_
    rw [bo_p]
    unfold v_ok
    rw [decide_eq_true_eq]
    intro x hx hxs
    exact t1 x (by omega) hxs
theorem false_b (h : INV L_law M) (hh : (M.1 50 24).toInt = nh) (hf : fv M N) (ht : ∀ x p, x < nh → p < 10 * nc → N.1 23 (250 * x + p) = v_ld M x p) (h25 : nc ≤ 25) {p o : Nat} (hp : p < 10 * nc) (ho : o < 10 * nc) {l1 l2 : Int32} (e1 : l1.toInt = p) (e2 : l2.toInt = o) : b_Search_falseBits l1 l2 N = some (Int32.ofNat (v_li M p o), N) := by
  have h10 : nh ≤ 10 := by have := h.2.2.2.2.2.2.1.2.2.1; omega
  have e18 : N.1 18 3 = M.1 50 24 := by rw [hf.1 18 3 rfl]; exact h.2.2.2.2.2.2.1.1
  unfold b_Search_falseBits
  refine T_eq (T_for (σ := Int32 × I_M) (N := nh) (a := 0) (f := fun m i s => b_Search_falseBits_L5 l1 l2 m s.1 i s.2) (s := ((0 : Int32), N)) (fun k s => s = (Int32.ofNat (v_ln M p o k), N)) (by omega) ?_ ?_ (by unfold i_F; omega) (by omega) rfl rfl)
  · intro m k i s g1 g2 g3 g4 g5
    subst g4
    dsimp only
    have hs : v_ln M p o (k + 1) = if v_so M k p o = true then v_ln M p o k else v_ln M p o k ||| 2 ^ k := rfl
    rw [hs] at g5
    unfold b_Search_falseBits_L5
    rw [e18, if_pos (by rw [a_lt]; omega), so_b h hh hf ht h25 g3 hp ho g1 e1 e2]
    dsimp only [Option.bind_some]
    by_cases z : v_so M k p o = true
    · rw [if_pos z] at g5
      rw [bo_p z, if_neg (by decide)]
      exact g5 _ rfl
    · rw [if_neg z] at g5
      rw [bo_n z, if_pos rfl, of_k g1, o_sh k (by omega), o_or, ← of_k g1]
      exact g5 _ rfl
  · intro m i s g1 g2
    subst g2
    dsimp only
    unfold b_Search_falseBits_L5
    rw [e18, if_neg (by rw [a_lt]; omega)]
    refine T_some ?_
    unfold v_li
    rw [show (M.1 50 24).toInt.toNat = nh by omega]
/-- the reference: o below 0 is none -/
theorem lieW_r (h : INV L_law M) (hh : (M.1 50 24).toInt = nh) (hf : fv M N) (ht : ∀ x p, x < nh → p < 10 * nc → N.1 62 (250 * x + p) = v_ld M x p) (h25 : nc ≤ 25) {p o : Nat} (hp : p < 10 * nc) (ho : o < 10 * nc) {l1 l2 : Int32} (e1 : l1.toInt = p) (e2 : (l2 = -1 ∧ o = p) ∨ (l2.toInt = o ∧ o ≠ p)) : r_liesWith l1 l2 N = some (Int32.ofNat (v_li M p o), N) := by
  have h10 : nh ≤ 10 := by have := h.2.2.2.2.2.2.1.2.2.1; omega
  have e24 : N.1 50 24 = M.1 50 24 := hf.1 50 24 rfl
  have l0 := Int32.toInt_zero
  unfold r_liesWith
  refine T_eq (T_for (σ := Int32 × I_M) (N := nh) (a := 0) (f := fun m i s => r_liesWith_L5 l1 l2 m s.1 i s.2) (s := ((0 : Int32), N)) (fun k s => s = (Int32.ofNat (v_ln M p o k), N)) (by omega) ?_ ?_ (by unfold i_F; omega) (by omega) rfl rfl)
  · intro m k i s g1 g2 g3 g4 g5
    subst g4
    dsimp only
    have hs : v_ln M p o (k + 1) = if v_so M k p o = true then v_ln M p o k else v_ln M p o k ||| 2 ^ k := rfl
    rw [hs] at g5
    have l250 : (250 : Int32).toInt = 250 := rfl
    have l3 : (3 : Int32).toInt = 3 := rfl
    have l2' : (2 : Int32).toInt = 2 := rfl
    have k1 : (250 * i).toInt = 250 * (k : Int) := by rw [a_mul] <;> rw [l250, g1] <;> omega
    have k2 : (250 * i + l1).toInt = ((250 * k + p : Nat) : Int) := by rw [a_add] <;> rw [k1, e1] <;> omega
    have k4 : ((3 : Int32) * i).toInt = ((3 * k : Nat) : Int) := by rw [a_mul] <;> rw [l3, g1] <;> omega
    have k5 : ((3 : Int32) * i + 2).toInt = ((3 * k + 2 : Nat) : Int) := by rw [a_add] <;> rw [k4, l2'] <;> omega
    have B48 : ∀ y z, y + z = (if o = p then v_ld M k p else v_ld M k p + v_ld M k o) → T (r_liesWith_B48 (fun a b c => r_liesWith_L5 l1 l2 m a b c) l1 l2 (Int32.ofNat (v_ln M p o k)) i y z N) (fun r => r = (Int32.ofNat (v_li M p o), N)) := by
      intro y z hyz
      unfold r_liesWith_B48
      rw [hd_r]
      dsimp only [Option.bind_some]
      rw [g_ok (by omega) (by omega), a_k k5, hf.1 61 _ rfl, hd_fv hf, hyz]
      by_cases q : v_so M k p o = true
      · rw [if_pos q] at g5
        unfold v_so at q
        rw [decide_eq_true_eq] at q
        rw [if_pos q, Int32.or_zero]
        exact g5 _ rfl
      · rw [if_neg q] at g5
        unfold v_so at q
        rw [decide_eq_true_eq] at q
        rw [if_neg q, of_k g1, o_sh k (by omega), o_or, ← of_k g1]
        exact g5 _ rfl
    unfold r_liesWith_L5
    rw [e24, if_pos (by rw [a_lt]; omega), g_ok (by omega) (by omega), a_k k2, ht k p g3 hp]
    rcases e2 with ⟨q1, q2⟩ | ⟨q1, q2⟩
    · rw [if_pos (by rw [q1]; decide)]
      exact B48 _ _ (by rw [if_pos q2, Int32.add_zero])
    · have k3 : (250 * i + l2).toInt = ((250 * k + o : Nat) : Int) := by rw [a_add] <;> rw [k1, q1] <;> omega
      rw [if_neg (by rw [a_lt]; omega), g_ok (by omega) (by omega), a_k k3, ht k o g3 ho]
      exact B48 _ _ (by rw [if_neg q2])
  · intro m i s g1 g2
    subst g2
    dsimp only
    unfold r_liesWith_L5
    rw [e24, if_neg (by rw [a_lt]; omega)]
    refine T_some ?_
    unfold v_li
    rw [show (M.1 50 24).toInt.toNat = nh by omega]
end FIT
