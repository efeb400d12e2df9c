/-! ===== part 92: the law from its entry ===== -/
theorem okE_nm {own nm nm' : String} {bytes : ByteArray} {ret : Option FieldType} {e : I_En} (h : (match e.2.1 with | .putfield _ => false | _ => true) = true) : i_okE own nm bytes ret e = i_okE own nm' bytes ret e := by
  obtain ⟨pc, ins, len, cst, r, sw⟩ := e
  unfold i_okE i_okR
  cases ins <;> first | rfl | cases h
theorem no_pf : i_c266.all (fun e => match e.2.1 with | .putfield _ => false | _ => true) = true := by decide +kernel
theorem law_okE (nm : String) : i_c266.all (i_okE "BellGroundLaw" nm code (some .boolean)) = true := by
  have hm := i_ok (j := 266) (e := i_r266) rfl
  unfold i_okM at hm
  simp only [Bool.and_eq_true] at hm
  have h1 : i_c266.all (i_okE "BellGroundLaw" "law" code (some .boolean)) = true := hm.1.1
  refine List.all_eq_true.mpr (fun e he => ?_)
  rw [okE_nm (nm' := "law") (List.all_eq_true.mp no_pf e he)]
  exact List.all_eq_true.mp h1 e he
theorem cf0_e : ∃ cf : I_Cf, i_cf0 = some cf ∧ cf.1 = 16 ∧ cf.2.1 = [some (.ref 100), some (.ref 0), some (.ref 50), none] ∧ cf.2.2.1 = [] ∧ cf.2.2.2.1 = i_SH ∧ i_M0 = (cf.2.2.2.2.1, cf.2.2.2.2.2.1) := by
  have h1 := i_cf0_true
  unfold i_cf0ok at h1
  unfold i_M0
  cases h : i_cf0 with
  | none =>
    rw [h] at h1
    cases h1
  | some cf =>
    rw [h] at h1
    simp only [Bool.and_eq_true, decide_eq_true_eq] at h1
    exact ⟨cf, rfl, h1.1.1.1, h1.1.1.2, h1.1.2, h1.2, rfl⟩
theorem len_SH : i_SH.length ≤ 600000 := by decide +kernel
theorem sl_SH : (i_SH.map fun sh => sh.2.1).sum ≤ 7302250 := by decide +kernel
/-- the small machine's word on the law: it answers 1 -/
theorem law_run {X : Nat × (Nat → Int32)} (hX : X.1 ≤ 3072) : ∃ M : I_M, I_RnE (I_Ex 80) i_c266 (0, [some (.ref 100), none, none, none], [], ([], (fun _ _ => 0), (fun _ _ => 0), X)) (some (.int 1)) (i_S X M) := by
  obtain ⟨r, hr, hr1⟩ := law_all hX 4000 0 i_M0 inv_0 (by decide) (by decide) (by decide)
  obtain ⟨cf, c1, c2, c3, c4, c5, c6⟩ := cf0_e
  refine ⟨r.2, ?_⟩
  have h18 := ok_w_law_L18 (X := X) (d := 80) (by omega) 4000 0 i_M0 r hr
  rw [hr1] at h18
  have h16 : I_RnE (I_Ex 80) i_c266 (16, [some (.ref 100), some (.ref 0), some (.ref 50), none], [], i_S X i_M0) (some (.int 1)) (i_S X r.2) := i_rs 2 (cf' := (18, [some (.ref 100), some (.ref 0), some (.ref 50), some (.int 0)], [], i_S X i_M0)) rfl h18
  refine i_segC_ok (X := X) (call := i_execC 3000 5) (E := I_Ex 80) (fun j as S v S1 h => i_Ex_mono (by omega) (i_execC_ok 5 j as S v S1 h)) 8 (0, [some (.ref 100), none, none, none], [], ([], (fun _ _ => 0), (fun _ _ => 0), (0, fun _ => 0))) cf c1 ?_
  have e : i_cX X cf = (16, [some (.ref 100), some (.ref 0), some (.ref 50), none], [], i_S X i_M0) := by
    unfold i_cX i_sX i_S
    rw [c2, c3, c4, c5, c6]
    try rfl
  rw [e]
  exact h16
/-- YOUR PART: from the entry, for every script of at most 3072 ints, the law comes to its end with true -/
theorem whole_start {p : Program} {e : Env} {s : State} {m : MethodId} {below : List Frame} {meth : Method} {c : Code} (l : Launch) (hflags : l.flags = flags0) {b L : Nat} {xs : Nat → Int32} (hL : L ≤ 3072) (C0 : lw_At p s m meth c b L xs) : W p l e room_1 s m #[Value.ref b] below meth c s.heap [] 0 0 (lw_Z below #[Value.ref b] s) (entryFrame m ([Value.ref b] : List Value).toArray 4) := by
  obtain ⟨D, G, g1, g2, hK, hE⟩ := world_0 C0
  obtain ⟨hx, hb, hr, hml, hown, hts, hX, hbl, hlocks, hgv⟩ := C0
  obtain ⟨M, n, hrun⟩ := law_run (X := (L, xs)) hL
  have hlen : (i_S (L, xs) M).1.length = i_SH.length := rfl
  have hl1 : i_SH.length ≤ 600000 := len_SH
  have hl2 : i_sl (i_S (L, xs) M) ≤ 7302250 := sl_SH
  have F : i_Fr p s m #[Value.ref b] meth c code D G "BellGroundLaw" meth.name 4 (some .boolean) (L, xs) := ⟨hx, hb, hr, hlocks, hml, hown, rfl, fun w hw => hts w (List.mem_filter.mp hw).1, hK, hE, Nat.le_of_eq g1⟩
  have hLe := i_L_entry G [Value.ref 100] (n := 4) (by decide)
  have em : ([Value.ref 100] : List Value).map (i_cv G) = [Value.ref b] := by
    show [Value.ref (i_ad G 100)] = _
    unfold i_ad
    rw [if_neg (by decide), g2]
  rw [em] at hLe
  have hP : i_P D G ([], (fun _ _ => 0), (fun _ _ => 0), (L, xs)) s.heap := ⟨fun k q h => by simp [i_ws] at h, g1.symm, Nat.zero_le _, fun q sh h => by simp at h⟩
  rw [lg_entry_eq]
  refine i_run (R := room_1) (d := 80) (fun j as S r S' h => i_sim l D G 80 j as S r S' h) (law_okE meth.name) (Nat.le_of_ble_eq_true rfl) (Nat.le_of_ble_eq_true rfl) F (c0 := 0) (s0 := 0) (r := some (.int 1)) (S' := i_S (L, xs) M) (by rw [hlen]; exact Nat.le_trans hl1 (Nat.le_add_right _ _)) (Nat.le_trans hl2 (Nat.le_add_right _ _)) ?_ n _ hrun rfl _ s.heap [] 0 0 hLe hP va_S.rf rfl rfl
  intro pc ls stk H locs cells slots hRF hP' hS' hc hsl
  have hc1 : cells ≤ 600000 := by rw [hlen] at hc; omega
  have hs1 : slots ≤ 7302250 := by omega
  rcases hRF with ⟨x, ty, q1, rfl, hdg, q2, q3⟩ | ⟨x, q1, _⟩ | ⟨q1, _⟩
  · cases q1
    refine va_forget (fun q hq => by have := hS'.2.2 q hq; unfold i_A at this; rw [g1] at this; exact this) ?_
    refine W.widen (k := 600000) (n := 7302250) hc1 hs1 ?_
    exact lw_ret hx hb hr hlocks hdg
  · cases q1
  · cases q1
set_option maxHeartbeats 4000000 in
theorem lw_walk (l : Launch) (hflags : l.flags = flags0) (b : Addr) (xs : List Int32) : MetFree l x (headSpec (Jvm.Cond.code x code maxLocals ret :: tables_1) room_1) (lw_P b xs) (fun _ _ _ _ _ => True) lw_Q := by
  refine MetFree.of_bodyS (code := code) (maxLocals := maxLocals) (ret := ret) (by decide) ?_ ?_
  · intro args s m h hn
    obtain ⟨meth, c, h1, h2, h3, h4, h5, h6, -, -⟩ := Cond.code_spec hn (atoms_spec (ws := Jvm.Cond.code x code maxLocals ret :: tables_1) h _ List.mem_cons_self)
    exact ⟨meth, c, h1, h2, h3, h4, h5, h6⟩
  · intro p e s m args below meth c s₁ B hml0 hP _
    obtain ⟨rfl, hx, hbd, hgv⟩ := hP
    obtain ⟨scr, harrAt, hlist, hof, hsmall⟩ := hx
    obtain ⟨hcb, hkn, -, -⟩ := State.arrayAt?_spec harrAt
    have hown : s.vm.findClass R_law = some m.cls := findClass_of_methodNamed B.named
    have hts0 : ∀ c ∈ (Jvm.Cond.code x code maxLocals ret :: tables_1), c.before #[Value.ref b] s = true := atoms_spec (ws := Jvm.Cond.code x code maxLocals ret :: tables_1) B.pre
    have hts : ∀ w ∈ lw_tbl, w.before #[Value.ref b] s = true := k2_hts_sels lw_privs (fun w hw => hts0 w (List.mem_cons_of_mem _ hw)) lw_privs_ok
    have hml : c.maxLocals = 4 := B.maxLocals_eq (hts0 _ List.mem_cons_self)
    have X₀ : Stand p l e room_1 s m #[Value.ref b] below meth c s₁ [] 0 0 := Stand.of_body B
    have hh0 : s₁.heap = s.heap := by rw [B.state]; rfl
    have hsz : scr.slots.size = xs.length := by rw [← Array.length_toList, hlist, List.length_map]
    have hval : ∀ j : Nat, j < xs.length → scr.slots[j]? = some (.int (xs.getD j 0)) := fun j hj => by
      rw [← Array.getElem?_toList, hlist]
      simp [hj]
    have hbl : b < s.heap.size := (Array.getElem?_eq_some_iff.mp hcb).1
    have hX : va_X b xs.length (fun j => xs.getD j 0) s s.heap := ⟨scr, hcb, hof, hkn, hsz, hval⟩
    have K : W p l e room_1 s m #[Value.ref b] below meth c s₁.heap [] 0 0 (lw_Z below #[Value.ref b] s) (entryFrame m ([Value.ref b] : List Value).toArray 4) := by
      rw [hh0]
      exact whole_start l hflags hbd ⟨B.exec, B.bytes, B.returns, hml, hown, hts, hX, hbl, B.notSynchronized, hgv⟩
    obtain ⟨t, a1, o, b1, b2, b3⟩ := K s₁ rfl X₀
    exact ⟨t, o, a1, b1, b2, b3⟩
theorem lw_pre_spec {args : Array Value} {s : State} (h : (Jvm.Cond.and given_1 narrow_1).before args s = true) (hr : rest_1_c.before args s = true) : ∃ (b : Addr) (xs : List Int32), lw_P b xs args s := by
  have hs := flat_of_before _ h
  have hq := flat_of_before _ hr
  have hc : (Cond.count 1).before args s = true := hs _ (by decide +kernel)
  have harr : (Cond.arrayOf (.arg 0) .int).before args s = true := hs _ (by decide +kernel)
  have hle : (Cond.le (.length (.arg 0)) (.int 3072)).before args s = true := hs _ (by decide +kernel)
  have hlen : (Cond.isInt (.length (.arg 0))).before args s = true := hq _ (by decide +kernel)
  have hall : (Cond.all (.arg 0) (.isInt (.elem (.arg 0) (.index 0)))).before args s = true := hq _ (by decide +kernel)
  obtain ⟨b, xs, hb, hx⟩ := State.ints_of_pre rfl harr hlen hall
  have hsm : xs.length < 2 ^ 31 := hx.choose_spec.2.2.2
  have hev : (Term.length (.arg 0)).eval args s none [] s = some (.int xs.length.toInt32) := hx.length_eval hb
  have hv := Cond.le_ints hev (show (Term.int 3072).eval args s none [] s = some (.int 3072) from rfl)
  have hd : xs.length.toInt32 ≤ 3072 := by
    simpa [Cond.before, Cond.holds, hv] using hle
  have hN : xs.length ≤ 3072 := (Int32.ofNat_le_ofNat hsm (by decide)).mp (show Int32.ofNat xs.length ≤ Int32.ofNat 3072 from hd)
  exact ⟨b, xs, Cond.one_arg hc (show args[0]? = some (.ref b) from hb), hx, hN, h⟩
theorem lw_comes (l : Launch) (hflags : l.flags = flags0) : Comes l x (Jvm.Cond.code x code maxLocals ret :: tables_1) room_1 (fun tb e args s => Calls_1 tb e args s ∧ rest_1 tb e args s ∧ Pre_1 tb e args s)
    (fun _ _ args s o t => lw_Q args s o t) := by
  intro p e ha hc hk s m args below hf hfit hheap happ hpre
  obtain ⟨b, xs, hP⟩ := lw_pre_spec hpre.2.2 hpre.2.1
  obtain ⟨k, o, h1, h2, h3, hQ⟩ := lw_walk l hflags b xs p e ha hc hk s m args below hf ((Spec.applies_iff_loose hf).mp happ).1 hP trivial
  exact ⟨k, o, h1, h2, h3, hQ⟩
theorem lw_frame {s t : State} {o : Outcome} {args : Array Value} (h : Framed s o t [] 600000 7302250) :
    Framed s o t (fieldLocs frame_1_writes args s ++ arrayLocs frame_1_arrays args s ++ staticLocs frame_1_statics s) 600000 7302250 := h
theorem lw_limb (L : Cond) (hL : ∀ (args : Array Value) (s t : State), L.after args s (.returned (some (.int 1))) t = true) :
    ArmFor flags0 classFile x code maxLocals ret World_1 tables_1 room_1 Calls_1 rest_1 Pre_1
      (fun tb e a s o t => postC L tb e a s o t ∧ Framed s o t (fieldLocs frame_1_writes a s ++ arrayLocs frame_1_arrays a s ++ staticLocs frame_1_statics s) 600000 7302250) := by
  intro l hflags _ _ p e ha hc hk s m args below hf hfit hheap happ hpre
  obtain ⟨k, o, h1, h2, h3, rfl, hF⟩ := lw_comes l hflags p e ha hc hk s m args below hf hfit hheap happ hpre
  exact ⟨k, _, h1, h2, h3, hL args s _, lw_frame hF⟩
theorem i_vc : Claimed_1_1 ∧ Claimed_1_2 := ⟨lw_limb limb_1_1 (fun args s t => by simp [limb_1_1, Cond.after, Cond.holds, Cond.value]), lw_limb limb_1_2 (fun args s t => Cond.after_iff.mpr (by
  first | (rw [show limb_1_2 = Cond.eq .result (.int 1) from rfl, Cond.eq_ints (x := 1) (y := 1) rfl rfl]; simp; done) | (simp [limb_1_2, Cond.value, Term.eval]; done)))⟩
