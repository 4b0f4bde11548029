theorem gz_NW_in : ∀ w ∈ gz_NW, w ∈ lw_tbl := by
  have e : gz_NW = ([83, 114, 139, 158, 179, 185, 229, 230, 296, 313, 488, 497, 544, 553, 563, 566, 573, 598, 604, 676, 677, 678, 679, 693, 703, 704] : List Nat).filterMap (fun i => lw_tbl[i]?) := by decide +kernel
  intro w hw
  rw [e] at hw
  obtain ⟨i, -, hi⟩ := List.mem_filterMap.mp hw
  exact List.mem_of_getElem? hi
theorem gz_arrI {args : Array Value} {s : State} (h : (Cond.arrayClass .int).before args s = true) : ∃ cA : ClassId, ArrOfT s cA .int ∧ va_RA s cA .int := by
  obtain ⟨cA, kA, comp, h1, h2, h3⟩ := Cond.arrayClass_spec h
  exact ⟨cA, fun n z => ⟨fun k h => (by cases h), kA, h2, comp, h3⟩, h1⟩
theorem gz_arrB {args : Array Value} {s : State} (h : (Cond.arrayClass .byte).before args s = true) : ∃ cA : ClassId, ArrOfT s cA .byte ∧ va_RA s cA .byte := by
  obtain ⟨cA, kA, comp, h1, h2, h3⟩ := Cond.arrayClass_spec h
  exact ⟨cA, fun n z => ⟨fun k h => (by cases h), kA, h2, comp, h3⟩, h1⟩
theorem gz_arrZ {args : Array Value} {s : State} (h : (Cond.arrayClass .boolean).before args s = true) : ∃ cA : ClassId, ArrOfT s cA .boolean ∧ va_RA s cA .boolean := by
  obtain ⟨cA, kA, comp, h1, h2, h3⟩ := Cond.arrayClass_spec h
  exact ⟨cA, fun n z => ⟨fun k h => (by cases h), kA, h2, comp, h3⟩, h1⟩
theorem gz_static {b : Nat} {s : State} (hts0 : ∀ w ∈ lw_tbl, w.before #[Value.ref b] s = true) (hgv : (Jvm.Cond.and given_1 narrow_1).before #[Value.ref b] s = true) : ∃ tS : Nat, va_Z tabC tabN "[I" (.ref tS) (fun q : Nat => s.heap.size ≤ q) s s.heap ∧ va_T .int tS tabL (fun j => .int (tabS j)) (fun q : Nat => s.heap.size ≤ q) s s.heap := by
  have hA : ∀ a : Nat, a < s.heap.size → ¬ (fun q : Nat => s.heap.size ≤ q) a := fun a h => Nat.not_le.mpr h
  have hs := flat_of_before _ hgv
  have harr : (Cond.arrayOf (.static tabC tabN "[I") .int).before #[Value.ref b] s = true := hs _ (by decide +kernel)
  have hlen : (Cond.eq (.length (.static tabC tabN "[I")) (.int 19)).before #[Value.ref b] s = true := hs _ (by decide +kernel)
  have h0 : (Cond.eq (.elem (.static tabC tabN "[I") (.int 0)) (.int (tabS 0))).before #[Value.ref b] s = true := hs _ (by decide +kernel)
  have h1 : (Cond.eq (.elem (.static tabC tabN "[I") (.int 1)) (.int (tabS 1))).before #[Value.ref b] s = true := hs _ (by decide +kernel)
  have h2 : (Cond.eq (.elem (.static tabC tabN "[I") (.int 2)) (.int (tabS 2))).before #[Value.ref b] s = true := hs _ (by decide +kernel)
  have h3 : (Cond.eq (.elem (.static tabC tabN "[I") (.int 3)) (.int (tabS 3))).before #[Value.ref b] s = true := hs _ (by decide +kernel)
  have h4 : (Cond.eq (.elem (.static tabC tabN "[I") (.int 4)) (.int (tabS 4))).before #[Value.ref b] s = true := hs _ (by decide +kernel)
  have h5 : (Cond.eq (.elem (.static tabC tabN "[I") (.int 5)) (.int (tabS 5))).before #[Value.ref b] s = true := hs _ (by decide +kernel)
  have h6 : (Cond.eq (.elem (.static tabC tabN "[I") (.int 6)) (.int (tabS 6))).before #[Value.ref b] s = true := hs _ (by decide +kernel)
  have h7 : (Cond.eq (.elem (.static tabC tabN "[I") (.int 7)) (.int (tabS 7))).before #[Value.ref b] s = true := hs _ (by decide +kernel)
  have h8 : (Cond.eq (.elem (.static tabC tabN "[I") (.int 8)) (.int (tabS 8))).before #[Value.ref b] s = true := hs _ (by decide +kernel)
  have h9 : (Cond.eq (.elem (.static tabC tabN "[I") (.int 9)) (.int (tabS 9))).before #[Value.ref b] s = true := hs _ (by decide +kernel)
  have h10 : (Cond.eq (.elem (.static tabC tabN "[I") (.int 10)) (.int (tabS 10))).before #[Value.ref b] s = true := hs _ (by decide +kernel)
  have h11 : (Cond.eq (.elem (.static tabC tabN "[I") (.int 11)) (.int (tabS 11))).before #[Value.ref b] s = true := hs _ (by decide +kernel)
  have h12 : (Cond.eq (.elem (.static tabC tabN "[I") (.int 12)) (.int (tabS 12))).before #[Value.ref b] s = true := hs _ (by decide +kernel)
  have h13 : (Cond.eq (.elem (.static tabC tabN "[I") (.int 13)) (.int (tabS 13))).before #[Value.ref b] s = true := hs _ (by decide +kernel)
  have h14 : (Cond.eq (.elem (.static tabC tabN "[I") (.int 14)) (.int (tabS 14))).before #[Value.ref b] s = true := hs _ (by decide +kernel)
  have h15 : (Cond.eq (.elem (.static tabC tabN "[I") (.int 15)) (.int (tabS 15))).before #[Value.ref b] s = true := hs _ (by decide +kernel)
  have h16 : (Cond.eq (.elem (.static tabC tabN "[I") (.int 16)) (.int (tabS 16))).before #[Value.ref b] s = true := hs _ (by decide +kernel)
  have h17 : (Cond.eq (.elem (.static tabC tabN "[I") (.int 17)) (.int (tabS 17))).before #[Value.ref b] s = true := hs _ (by decide +kernel)
  have h18 : (Cond.eq (.elem (.static tabC tabN "[I") (.int 18)) (.int (tabS 18))).before #[Value.ref b] s = true := hs _ (by decide +kernel)
  have hel : ∀ j : Nat, j < 19 → (Term.elem (.static tabC tabN "[I") (.int (Int32.ofNat j))).eval #[Value.ref b] s none [] s = some (.int (tabS j)) := by
    intro j hj
    rcases (show j = 0 ∨ j = 1 ∨ j = 2 ∨ j = 3 ∨ j = 4 ∨ j = 5 ∨ j = 6 ∨ j = 7 ∨ j = 8 ∨ j = 9 ∨ j = 10 ∨ j = 11 ∨ j = 12 ∨ j = 13 ∨ j = 14 ∨ j = 15 ∨ j = 16 ∨ j = 17 ∨ j = 18 by omega) with rfl | rfl | rfl | rfl | rfl | rfl | rfl | rfl | rfl | rfl | rfl | rfl | rfl | rfl | rfl | rfl | rfl | rfl | rfl
    · exact va_eqt h0
    · exact va_eqt h1
    · exact va_eqt h2
    · exact va_eqt h3
    · exact va_eqt h4
    · exact va_eqt h5
    · exact va_eqt h6
    · exact va_eqt h7
    · exact va_eqt h8
    · exact va_eqt h9
    · exact va_eqt h10
    · exact va_eqt h11
    · exact va_eqt h12
    · exact va_eqt h13
    · exact va_eqt h14
    · exact va_eqt h15
    · exact va_eqt h16
    · exact va_eqt h17
    · exact va_eqt h18
  obtain ⟨tS, hv, hT⟩ := va_Tof (tm := (.static tabC tabN "[I")) (ty := .int) (N := 19) (f := fun j => .int (tabS j)) (A := fun q : Nat => s.heap.size ≤ q) (by decide) harr (va_eqt hlen) hel hA
  exact ⟨tS, va_Zref (hts0 (.laysStatic tabC tabN "[I") (List.mem_of_getElem? (i := 554) (by decide +kernel))) (hts0 (.initialized tabC) (List.mem_of_getElem? (i := 59) (by decide +kernel))) hv hA, hT⟩
set_option maxHeartbeats 4000000 in
set_option maxRecDepth 100000 in
theorem whole_start {p : Program} {e : Env} {s : State} {m : MethodId} {below : List Frame} {meth : Method} {c : Code} (l : Launch) {b L : Nat} {xs : Nat → Int32} (hL : L ≤ 2048) (C0 : lw_At p s m meth c b L xs) : W p l e room_1 s m #[Value.ref b] below meth c s.heap [] 0 0 (lw_Z below #[Value.ref b] s) (entryFrame m ([Value.ref b] : List Value).toArray 4) := by
  obtain ⟨hx, hb, hr, hml, hown, hts0, hX, hbl, hlocks, hgv⟩ := id C0
  have hts : ∀ w ∈ gz_W, w.before #[Value.ref b] s = true := fun w h => hts0 w (List.mem_filter.mp h).1
  obtain ⟨c0, iS0, hKn0⟩ := u_known (C := R_Bp) (T := F_Bp) (N := 4) (n := 4) hts in_Bp (hts _ kw_658)
  obtain ⟨c1, iS1, hKn1⟩ := u_known (C := R_Row) (T := F_Row) (N := 3) (n := 3) hts in_Row (hts _ kw_4)
  obtain ⟨c2, iS2, hKn2⟩ := u_known (C := R_Packer) (T := F_Packer) (N := 13) (n := 13) hts in_Packer (hts _ kw_16)
  obtain ⟨c3, iS3, hKn3⟩ := u_known (C := R_Unpacker) (T := F_Unpacker) (N := 11) (n := 11) hts in_Unpacker (hts _ kw_105)
  obtain ⟨c4, iS4, hKn4⟩ := u_known (C := R_Matcher) (T := F_Matcher) (N := 5) (n := 5) hts in_Matcher (hts _ kw_20)
  obtain ⟨c5, iS5, hKn5⟩ := u_known (C := R_LengthMaker) (T := F_LengthMaker) (N := 4) (n := 4) hts in_LengthMaker (hts _ kw_33)
  obtain ⟨c6, iS6, hKn6⟩ := u_known (C := R_Found) (T := F_Found) (N := 4) (n := 4) hts in_Found (hts _ kw_44)
  obtain ⟨c7, iS7, hKn7⟩ := u_known (C := R_Tale) (T := F_Tale) (N := 9) (n := 9) hts in_Tale (hts _ kw_55)
  obtain ⟨c8, iS8, hKn8⟩ := u_known (C := R_WriteCodes) (T := F_WriteCodes) (N := 2) (n := 2) hts in_WriteCodes (hts _ kw_63)
  obtain ⟨c9, iS9, hKn9⟩ := u_known (C := R_ReadCodes) (T := F_ReadCodes) (N := 4) (n := 4) hts in_ReadCodes (hts _ kw_109)
  obtain ⟨c10, iS10, hKn10⟩ := u_known (C := R_Mo) (T := F_Mo) (N := 25) (n := 25) hts in_Mo (hts _ kw_663)
  obtain ⟨dC, dI, hKc⟩ : ∃ (dC : Nat → ClassId) (dI : Nat → Nat → Nat), ∀ (k : Nat) (q : vw_C), vwCl[k]? = some q → u_Kn s q.1 q.2.1 q.2.2 (dC k) (dI k) := by
    refine ⟨fun k => if k = 0 then c0 else if k = 1 then c1 else if k = 2 then c2 else if k = 3 then c3 else if k = 4 then c4 else if k = 5 then c5 else if k = 6 then c6 else if k = 7 then c7 else if k = 8 then c8 else if k = 9 then c9 else c10, fun k => if k = 0 then iS0 else if k = 1 then iS1 else if k = 2 then iS2 else if k = 3 then iS3 else if k = 4 then iS4 else if k = 5 then iS5 else if k = 6 then iS6 else if k = 7 then iS7 else if k = 8 then iS8 else if k = 9 then iS9 else iS10, ?_⟩
    intro k q hq
    match k, hq with
    | 0, hq => cases hq; exact hKn0
    | 1, hq => cases hq; exact hKn1
    | 2, hq => cases hq; exact hKn2
    | 3, hq => cases hq; exact hKn3
    | 4, hq => cases hq; exact hKn4
    | 5, hq => cases hq; exact hKn5
    | 6, hq => cases hq; exact hKn6
    | 7, hq => cases hq; exact hKn7
    | 8, hq => cases hq; exact hKn8
    | 9, hq => cases hq; exact hKn9
    | 10, hq => cases hq; exact hKn10
    | k + 11, hq => simp [vwCl] at hq
  obtain ⟨cI, hcI⟩ := gz_arrI (hts _ kw_23)
  obtain ⟨cB, hcB⟩ := gz_arrB (hts _ kw_7)
  obtain ⟨cZ, hcZ⟩ := gz_arrZ (hts _ kw_481)
  have hK : va_K (dC, dI) vwCl [(cI, .int), (cB, .byte), (cZ, .boolean)] s := by
    refine ⟨hKc, fun k q h => ?_⟩
    match k, h with
    | 0, h => cases h; exact hcI
    | 1, h => cases h; exact hcB
    | 2, h => cases h; exact hcZ
    | k + 3, h => simp at h
  obtain ⟨tS, hZ, hT⟩ := gz_static hts0 hgv
  have hE : gz_E tS (fun q : Nat => s.heap.size ≤ q) s := ⟨fun w hw => va_Nw.of (gz_onT w (List.all_eq_true.mp gz_nwAll w hw)) (hts0 w (gz_NW_in w hw)), hZ, hT⟩
  have hP : va_P (dC, dI) vwCl [] s.heap := fun k q h => by simp at h
  have hD : va_D (fun q : Nat => s.heap.size ≤ q) [] := ⟨fun i j p q h => by simp at h, fun k q h => by simp at h⟩
  obtain ⟨N, hN⟩ := g_law_ok L xs hL
  have hl := lv_entry ([.ref b]) (n := 4) (Nat.le_of_ble_eq_true rfl)
  rw [lg_entry_eq]
  generalize (lg_sl ([.ref b]) ++ List.replicate (4 - (lg_sl ([.ref b])).length) Slot.unset).toArray = ls at hl ⊢
  exact w_Law_law_0 b N L xs ⟨C0, hK, hE⟩ hN _ _ _ hP hD va_S.rf (lv_sub hl [0] rfl)
set_option maxHeartbeats 4000000 in
theorem lw_walk (l : Launch) (b : Addr) (xs : List Int32) : MetFree l x (headSpec (Jvm.Cond.code x code maxLocals ret :: tables_1) room_1) (lw_P b xs) (fun _ _ _ _ _ => True) lw_Q := by
  refine MetFree.of_bodyS (code := code) (maxLocals := maxLocals) (ret := ret) (by decide) ?_ ?_
  · intro args s m h hn
    obtain ⟨meth, c, h1, h2, h3, h4, h5, h6, -, -⟩ := Cond.code_spec hn (atoms_spec (ws := Jvm.Cond.code x code maxLocals ret :: tables_1) h _ List.mem_cons_self)
    exact ⟨meth, c, h1, h2, h3, h4, h5, h6⟩
  · intro p e s m args below meth c s₁ B hml0 hP _
    obtain ⟨rfl, hx, hbd, hgv⟩ := hP
    obtain ⟨scr, harrAt, hlist, hof, hsmall⟩ := hx
    obtain ⟨hcb, hkn, -, -⟩ := State.arrayAt?_spec harrAt
    have hown : s.vm.findClass R_law = some m.cls := findClass_of_methodNamed B.named
    have hts0 : ∀ c ∈ (Jvm.Cond.code x code maxLocals ret :: tables_1), c.before #[Value.ref b] s = true := atoms_spec (ws := Jvm.Cond.code x code maxLocals ret :: tables_1) B.pre
    have hts : ∀ w ∈ lw_tbl, w.before #[Value.ref b] s = true := k2_hts_sels lw_privs (fun w hw => hts0 w (List.mem_cons_of_mem _ hw)) lw_privs_ok
    have hml : c.maxLocals = 4 := B.maxLocals_eq (hts0 _ List.mem_cons_self)
    have X₀ : Stand p l e room_1 s m #[Value.ref b] below meth c s₁ [] 0 0 := Stand.of_body B
    have hh0 : s₁.heap = s.heap := by rw [B.state]; rfl
    have hsz : scr.slots.size = xs.length := by rw [← Array.length_toList, hlist, List.length_map]
    have hval : ∀ j : Nat, j < xs.length → scr.slots[j]? = some (.int (xs.getD j 0)) := fun j hj => by
      rw [← Array.getElem?_toList, hlist]
      simp [hj]
    have hbl : b < s.heap.size := (Array.getElem?_eq_some_iff.mp hcb).1
    have hX : va_X b xs.length (fun j => xs.getD j 0) s s.heap := ⟨scr, hcb, hof, hkn, hsz, hval⟩
    have K : W p l e room_1 s m #[Value.ref b] below meth c s₁.heap [] 0 0 (lw_Z below #[Value.ref b] s) (entryFrame m ([Value.ref b] : List Value).toArray 4) := by
      rw [hh0]
      exact whole_start l hbd ⟨B.exec, B.bytes, B.returns, hml, hown, hts, hX, hbl, B.notSynchronized, hgv⟩
    obtain ⟨t, a1, o, b1, b2, b3⟩ := K s₁ rfl X₀
    exact ⟨t, o, a1, b1, b2, b3⟩
theorem lw_pre_spec {args : Array Value} {s : State} (h : (Jvm.Cond.and given_1 narrow_1).before args s = true) (hr : rest_1_c.before args s = true) : ∃ (b : Addr) (xs : List Int32), lw_P b xs args s := by
  have hs := flat_of_before _ h
  have hq := flat_of_before _ hr
  have hc : (Cond.count 1).before args s = true := hs _ (by decide +kernel)
  have harr : (Cond.arrayOf (.arg 0) .int).before args s = true := hs _ (by decide +kernel)
  have hle : (Cond.le (.length (.arg 0)) (.int 2048)).before args s = true := hs _ (by decide +kernel)
  have hlen : (Cond.isInt (.length (.arg 0))).before args s = true := hq _ (by decide +kernel)
  have hall : (Cond.all (.arg 0) (.isInt (.elem (.arg 0) (.index 0)))).before args s = true := hq _ (by decide +kernel)
  obtain ⟨b, xs, hb, hx⟩ := State.ints_of_pre rfl harr hlen hall
  have hsm : xs.length < 2 ^ 31 := hx.choose_spec.2.2.2
  have hev : (Term.length (.arg 0)).eval args s none [] s = some (.int xs.length.toInt32) := hx.length_eval hb
  have hv := Cond.le_ints hev (show (Term.int 2048).eval args s none [] s = some (.int 2048) from rfl)
  have hd : xs.length.toInt32 ≤ 2048 := by
    simpa [Cond.before, Cond.holds, hv] using hle
  have hN : xs.length ≤ 2048 := (Int32.ofNat_le_ofNat hsm (by decide)).mp (show Int32.ofNat xs.length ≤ Int32.ofNat 2048 from hd)
  exact ⟨b, xs, Cond.one_arg hc (show args[0]? = some (.ref b) from hb), hx, hN, h⟩
theorem lw_comes (l : Launch) : Comes l x (Jvm.Cond.code x code maxLocals ret :: tables_1) room_1 (fun tb e args s => Calls_1 tb e args s ∧ rest_1 tb e args s ∧ Pre_1 tb e args s)
    (fun _ _ args s o t => lw_Q args s o t) := by
  intro p e ha hc hk s m args below hf hfit hheap happ hpre
  obtain ⟨b, xs, hP⟩ := lw_pre_spec hpre.2.2 hpre.2.1
  obtain ⟨k, o, h1, h2, h3, hQ⟩ := lw_walk l b xs p e ha hc hk s m args below hf ((Spec.applies_iff_loose hf).mp happ).1 hP trivial
  exact ⟨k, o, h1, h2, h3, hQ⟩
theorem lw_frame {s t : State} {o : Outcome} {args : Array Value} (h : Framed s o t [] 76 84990) :
    Framed s o t (fieldLocs frame_1_writes args s ++ arrayLocs frame_1_arrays args s ++ staticLocs frame_1_statics s) 76 84990 := h
theorem lw_limb (L : Cond) (hL : ∀ (args : Array Value) (s t : State), L.after args s (.returned (some (.int 1))) t = true) :
    ArmFor flags0 classFile x code maxLocals ret World_1 tables_1 room_1 Calls_1 rest_1 Pre_1
      (fun tb e a s o t => postC L tb e a s o t ∧ Framed s o t (fieldLocs frame_1_writes a s ++ arrayLocs frame_1_arrays a s ++ staticLocs frame_1_statics s) 76 84990) := by
  intro l _ _ _ p e ha hc hk s m args below hf hfit hheap happ hpre
  obtain ⟨k, o, h1, h2, h3, rfl, hF⟩ := lw_comes l p e ha hc hk s m args below hf hfit hheap happ hpre
  exact ⟨k, _, h1, h2, h3, hL args s _, lw_frame hF⟩
theorem i_vc : Claimed_1_1 ∧ Claimed_1_2 := ⟨lw_limb limb_1_1 (fun args s t => by simp [limb_1_1, Cond.after, Cond.holds, Cond.value]), lw_limb limb_1_2 (fun args s t => Cond.after_iff.mpr (by
  first | (rw [show limb_1_2 = Cond.eq .result (.int 1) from rfl, Cond.eq_ints (x := 1) (y := 1) rfl rfl]; simp; done) | (simp [limb_1_2, Cond.value, Term.eval]; done)))⟩
