theorem low8 {x y : Int32} (h : ∀ i, i < 8 → bt x i = bt y i) : ∀ i, i < 8 → (x >>> (nI i &&& 31)) &&& 1 = (y >>> (nI i &&& 31)) &&& 1 := by
  intro i hi
  apply b_ext
  intro j hj
  rw [b_and, b_and, b_sshr i (by omega) x hj, b_sshr i (by omega) y hj]
  by_cases c : j = 0
  · subst c
    rw [if_pos (by omega), if_pos (by omega), Nat.add_zero, h i hi]
  · have : bt 1 j = false := by
      have : ∀ j, j < 32 → j ≠ 0 → bt 1 j = false := by decide
      exact this j hj c
    rw [this, Bool.and_false, Bool.and_false]
theorem bt_n {w i : Nat} (hi : i < 32) : bt (nI w) i = w.testBit i := by
  show (BitVec.ofNat 32 w).getLsbD i = _
  rw [BitVec.getLsbD_ofNat]
  simp [hi]
theorem lN_32 (n : Nat) : (lN n).toInt32 = nI n := by
  apply Int32.toBitVec_inj.mp
  rw [Int64.toBitVec_toInt32]
  rw [BitVec.signExtend_eq_setWidth_of_le _ (by decide)]
  show (BitVec.ofNat 64 n).setWidth 32 = BitVec.ofNat 32 n
  apply BitVec.eq_of_toNat_eq
  rw [BitVec.toNat_setWidth, BitVec.toNat_ofNat, BitVec.toNat_ofNat]
  omega
theorem chk_byte {v j : Nat} (hv : v < 2 ^ 32) (hj : j < 4) : ∀ i, i < 8 → ((((nI v).toUInt32 >>> ((nI (8 * j)).toUInt32 &&& Int32.toUInt32 31)).toInt32) >>> (nI i &&& 31)) &&& 1 = (((((lN v) >>> ((nI (8 * j)).toInt64 &&& 63)) &&& (255 : Int64)).toInt32) >>> (nI i &&& 31)) &&& 1 := by
  apply low8
  intro i hi
  rw [feed_bits (lN v) j (by omega), wb_shr (by omega) (by omega), lN_32, b_and, b_ushr (8 * j) (by omega), b_255, bt_n (by omega), bt_n (by omega), Nat.testBit_div_two_pow, Nat.add_comm i]
  rw [decide_eq_true hi, Bool.and_true]
theorem check_loop2 {N v : Nat} {mxs mso ne sC dC it ms oc pr r2 r1 md trow tcc tit tmo tcl mst mdt tct : Nat → Int32} {vst vfx vmd vma vsi vfc vl vd vts vtd tki tlc : Int32} {td A V cu or_ ln ls br li is la sc st sm sl_ rw_ : Nat → Int32} {tok sp : Int32} (hN : 100000 ≤ N) (hv : v < 2 ^ 32) : ∀ (c p : Nat) (fo go : Nat → Int32) (M M' : Nat), c ≤ 4 → c < M → c < M' → wr fo go p → p + 8 * c ≤ 72000 → ∃ fo' go', wr fo' go' (p + 8 * c) ∧ g_Packer_run_L2 N 9000 M (nI v) (nI (8 * c) + (-8)) vst vfx vmd vma vsi (nI ((p + 7) / 8)) (nI p) fo mxs mso ne vfc sC dC vl vd it ms oc pr r2 r1 md vts vtd trow tki tcc tit tmo tcl tlc mst mdt tct = some (vst, vfx, vmd, vma, vsi, nI ((p + 8 * c + 7) / 8), nI (p + 8 * c), fo', mxs, mso, ne, vfc, sC, dC, vl, vd, it, ms, oc, pr, r2, r1, md, vts, vtd, trow, tki, tcc, tit, tmo, tcl, tlc, mst, mdt, tct) ∧ g_Mo_pack_L5 N 9000 M' (lN v) (nI (8 * c) + (-8)) (nI ((p + 7) / 8)) go (nI p) td tok A V cu or_ ln ls br li is la sp sc st sm sl_ rw_ = some (nI ((p + 8 * c + 7) / 8), nI ((p + 8 * c + 7) / 8), go', nI (p + 8 * c), td, tok, A, V, cu, or_, ln, ls, br, li, is, la, sp, sc, st, sm, sl_, rw_) := by
  intro c
  induction c with
  | zero =>
    intro p fo go M M' _ hM hM' ho hp
    obtain ⟨k1, rfl⟩ := succ_of hM
    obtain ⟨k2, rfl⟩ := succ_of hM'
    have z : nI (8 * 0) + (-8) < 0 := by decide
    refine ⟨fo, go, ho, ?_, ?_⟩
    · rw [g_Packer_run_L2, if_pos z, Nat.mul_zero, Nat.add_zero p]
    · rw [g_Mo_pack_L5, if_pos z, Nat.mul_zero, Nat.add_zero p]
  | succ c ih =>
    intro p fo go M M' hc hM hM' ho hp
    obtain ⟨k1, rfl⟩ := succ_of hM
    obtain ⟨k2, rfl⟩ := succ_of hM'
    have e : nI (8 * (c + 1)) + (-8) = nI (8 * c) := by
      have q : nI (8 * c) + nI 8 = nI (8 * c + 8) := nI_add _ 8
      have q2 : nI 8 + (-8) = 0 := by decide
      rw [show 8 * (c + 1) = 8 * c + 8 by omega, ← q, Int32.add_assoc, q2, Int32.add_zero]
    obtain ⟨fo1, go1, w1, e1, e1'⟩ := sim_put (N := N) (k := 8) ho (by omega) (by omega) hN (chk_byte (j := c) hv (by omega))
    obtain ⟨fo', go', w2, r1', r2'⟩ := ih (p + 8) fo1 go1 k1 k2 (by omega) (by omega) (by omega) w1 (by omega)
    rw [show p + 8 + 8 * c = p + 8 * (c + 1) by omega] at w2 r1' r2'
    refine ⟨fo', go', w2, ?_, ?_⟩
    · have x1 : g_Row_putNumber_0 N 9000 (((nI v).toUInt32 >>> ((nI (8 * c)).toUInt32 &&& Int32.toUInt32 31)).toInt32) 8 fo (nI ((p + 7) / 8)) (nI p) = _ := e1
      rw [g_Packer_run_L2, e, if_neg (nI_pos (by omega)), x1, Option.bind_some]
      exact r1'
    · have x1 : g_Mo_writeNumber_0 N 9000 ((((lN v) >>> ((nI (8 * c)).toInt64 &&& 63)) &&& (255 : Int64)).toInt32) 8 go (nI ((p + 7) / 8)) (nI p) = _ := e1'
      rw [g_Mo_pack_L5, e, if_neg (nI_pos (by omega)), x1, Option.bind_some]
      exact r2'
theorem pad_loop2 {fo g : Nat → Int32} {go td A V cu or_ ln ls br li is la sc st sm sl_ rw_ : Nat → Int32} {tok sp : Int32} {P N m : Nat} (hP : P % 8 = 0) (hP2 : P ≤ 72000) : ∀ (d q M : Nat), q + d = P → d < 8 → d < M → wr fo go q → ∃ M2, g_Mo_pack_L4 N (nI m) 9000 8192 g M (nI ((q + 7) / 8)) go (nI q) td tok A V cu or_ ln ls br li is la sp sc st sm sl_ rw_ = g_Mo_pack_L4 N (nI m) 9000 8192 g (M2 + 1) (nI ((P + 7) / 8)) go (nI P) td tok A V cu or_ ln ls br li is la sp sc st sm sl_ rw_ := by
  intro d
  induction d with
  | zero =>
    intro q M hq _ hM ho
    obtain ⟨k1, rfl⟩ := succ_of hM
    have e : q = P := by omega
    subst e
    exact ⟨k1, rfl⟩
  | succ d ih =>
    intro q M hq hd hM ho
    obtain ⟨k1, rfl⟩ := succ_of hM
    have hr : ¬ q % 8 = 0 := by omega
    have e8 : (q + 1 + 7) / 8 = (q + 7) / 8 := by omega
    have w' : wr fo go (q + 1) := by unfold wr; rw [e8]; exact ho
    obtain ⟨M2, r⟩ := ih (q + 1) k1 (by omega) (by omega) (by omega) w'
    refine ⟨M2, ?_⟩
    rw [e8] at r
    rw [g_Mo_pack_L4, nI_rem8 (by omega), if_neg (by rw [z_0, nI_eq (by omega) (by omega)]; exact hr), write0 ho (by omega) hr, Option.bind_some]
    exact r
/-- behind the last block: whole bytes, then the check -/
theorem sim_endw {N m p x M M' : Nat} {f g fsl fdl fst fdt : Nat → Int32} {fo mxs mso ne sC dC it ms oc pr r2 r1 md trow tcc tit tmo tcl mst mdt tct : Nat → Int32} {vst vfx vmd vma vsi vfc vl vd vts vtd tki tlc : Int32} {go td A V cu or_ ln ls br li is la sc st sm sl_ rw_ : Nat → Int32} {tok sp : Int32} {ch lz y1 y2 y3 : Int32} (hN : 100000 ≤ N) (hb : rb f g m) (hm : m ≤ 8192) (hx : m ≤ x) (hx0 : 0 < x) (hx1 : x < 2 ^ 31) (ho : wr fo go p) (hp : p ≤ 70000) : ∃ (p' : Nat) (fo' go' : Nat → Int32), p' ≤ p + 40 ∧ wr fo' go' p' ∧ g_Packer_run_L1 N 9000 (nI m) 9000 f 8192 286 30 4096 288 286 572 572 572 288 316 19 316 316 288 288 fsl 288 fdl 288 288 288 288 fst 288 fdt (M + 1) ch lz (nI x) vst vfx vmd vma vsi (nI ((p + 7) / 8)) (nI p) fo mxs mso ne vfc sC dC vl vd it ms oc pr r2 r1 md vts vtd trow tki tcc tit tmo tcl tlc mst mdt tct = some (vst, vfx, vmd, vma, vsi, nI ((p' + 7) / 8), nI p', fo', mxs, mso, ne, vfc, sC, dC, vl, vd, it, ms, oc, pr, r2, r1, md, vts, vtd, trow, tki, tcc, tit, tmo, tcl, tlc, mst, mdt, tct) ∧ g_Mo_pack_L2 N (nI m) 9000 8 8192 g 4096 4096 320 288 320 15 600 600 9000 320 19 320 320 320 19 (M' + 1) y1 y2 y3 1 (nI ((p + 7) / 8)) go (nI p) td tok A V cu or_ ln ls br li is la sp sc st sm sl_ rw_ = some (nI ((p' + 7) / 8), nI ((p' + 7) / 8), go', nI p', td, tok, A, V, cu, or_, ln, ls, br, li, is, la, sp, sc, st, sm, sl_, rw_) := by
  have hv := adv_lt g m
  obtain ⟨P, hP⟩ : ∃ P, P = (p + 7) / 8 * 8 := ⟨_, rfl⟩
  have ho' := wr_pad ho
  rw [← hP] at ho'
  obtain ⟨fo', go', w, e1, e2⟩ := check_loop2 (vst := vst) (vfx := vfx) (vmd := vmd) (vma := vma) (vsi := vsi) (mxs := mxs) (mso := mso) (ne := ne) (vfc := vfc) (sC := sC) (dC := dC) (vl := vl) (vd := vd) (it := it) (ms := ms) (oc := oc) (pr := pr) (r2 := r2) (r1 := r1) (md := md) (vts := vts) (vtd := vtd) (trow := trow) (tki := tki) (tcc := tcc) (tit := tit) (tmo := tmo) (tcl := tcl) (tlc := tlc) (mst := mst) (mdt := mdt) (tct := tct) (td := td) (tok := tok) (A := A) (V := V) (cu := cu) (or_ := or_) (ln := ln) (ls := ls) (br := br) (li := li) (is := is) (la := la) (sp := sp) (sc := sc) (st := st) (sm := sm) (sl_ := sl_) (rw_ := rw_) hN hv 4 P fo go N N (by omega) (by omega) (by omega) ho' (by omega)
  obtain ⟨M2, e3⟩ := pad_loop2 (g := g) (m := m) (N := N) (td := td) (tok := tok) (A := A) (V := V) (cu := cu) (or_ := or_) (ln := ln) (ls := ls) (br := br) (li := li) (is := is) (la := la) (sp := sp) (sc := sc) (st := st) (sm := sm) (sl_ := sl_) (rw_ := rw_) (P := P) (by omega) (by omega) (P - p) p N (by omega) (by omega) (by omega) ho
  have hP8 : P % 8 = 0 := by omega
  refine ⟨P + 8 * 4, fo', go', by omega, w, ?_, ?_⟩
  · have x1 : g_Packer_run_L2 N 9000 N (nI (adv g m)) 24 vst vfx vmd vma vsi (nI ((P + 7) / 8)) (nI P) fo mxs mso ne vfc sC dC vl vd it ms oc pr r2 r1 md vts vtd trow tki tcc tit tmo tcl tlc mst mdt tct = _ := e1
    have eP2 : (p + 7) / 8 = (P + 7) / 8 := by omega
    rw [g_Packer_run_L1, if_neg (nI_ne0 hx0 hx1), if_pos (nI_le hx hx1), skip_to, Option.bind_some, check_ok hb (by omega) hN, Option.bind_some, ← hP, eP2]
    exact x1
  · have x1 : g_Mo_pack_L5 N 9000 N (lN (adv g m)) 24 (nI ((P + 7) / 8)) go (nI P) td tok A V cu or_ ln ls br li is la sp sc st sm sl_ rw_ = _ := e2
    rw [g_Mo_pack_L2, if_neg (by decide), e3, g_Mo_pack_L4, nI_rem8 (by omega), if_pos (by rw [hP8]; rfl), checkOf_ok hb (by omega) (by omega) hN, Option.bind_some]
    exact x1
