theorem told_zero {N m : Nat} {g td0 : Nat → Int32} {x1 x2 os ba : Int32} {go A V cu or_ ln ls br li is la sc st sm sl_ rw_ : Nat → Int32} {tok sp : Int32} : ∀ (d j : Nat) (td : Nat → Int32) (M : Nat), j + d = 6 → d < M → (∀ t, t < j → td t = 0) → (∀ t, 6 ≤ t → td t = td0 t) → ∃ (td' : Nat → Int32) (M2 : Nat), (∀ t, t < 6 → td' t = 0) ∧ (∀ t, 6 ≤ t → td' t = td0 t) ∧ g_Mo_pack_L1 N (nI m) 9000 8 8192 g 4096 4096 320 288 320 15 600 600 9000 320 19 320 320 320 19 M x1 x2 (nI j) os go ba td tok A V cu or_ ln ls br li is la sp sc st sm sl_ rw_ = g_Mo_pack_L1 N (nI m) 9000 8 8192 g 4096 4096 320 288 320 15 600 600 9000 320 19 320 320 320 19 (M2 + 1) x1 x2 (nI 6) os go ba td' tok A V cu or_ ln ls br li is la sp sc st sm sl_ rw_ := by
  intro d
  induction d with
  | zero =>
    intro j td M hj hM h1 h2
    obtain ⟨q, rfl⟩ := succ_of hM
    have e : j = 6 := by omega
    subst e
    exact ⟨td, q, h1, h2, rfl⟩
  | succ d ih =>
    intro j td M hj hM h1 h2
    obtain ⟨q, rfl⟩ := succ_of hM
    obtain ⟨td', M2, h1', h2', r⟩ := ih (j + 1) (upd td j 0) q (by omega) (by omega) (fun t ht => by
      by_cases c : t = j
      · subst c; exact pk_us
      · rw [pk_un c]; exact h1 t (by omega)) (fun t ht => by rw [pk_un (by omega)]; exact h2 t ht)
    refine ⟨td', M2, h1', h2', ?_⟩
    rw [← r, g_Mo_pack_L1, if_neg (show ¬ (6 : Int32) ≤ nI j from nI_ge (b := 6) (by omega) (by omega)), if_neg (nI_in (by omega) (by omega)), nI_clamp (n := j) (by omega), nI_1]
theorem head_bytes (q : Nat) : ((g_Mo_writeNumber_0 (q + 20) 9000 120 8 (fun _ => 0) 0 0).bind (fun r => (g_Mo_writeNumber_0 (q + 20) 9000 156 8 r.1 r.2.1 r.2.2).bind (fun r2 => some (r2.1 0, r2.1 1)))) = some (120, 156) := by
  rfl
/-- the first two bytes -/
theorem sim_headw {fo go : Nat → Int32} {N : Nat} (hN : 100000 ≤ N) : ∃ fo1 fo2, g_Row_putNumber_0 N 9000 120 8 fo 0 0 = some (fo1, nI ((0 + 8 + 7) / 8), nI (0 + 8)) ∧ g_Row_putNumber_0 N 9000 156 8 fo1 (nI ((0 + 8 + 7) / 8)) (nI (0 + 8)) = some (fo2, nI ((16 + 7) / 8), nI 16) ∧ wr fo2 (upd (upd go 0 120) 1 156) 16 := by
  have w0 : wr fo (fun _ => 0) 0 := fun i hi => by omega
  obtain ⟨fo1, go1, w1, e1, e1'⟩ := sim_put (N := N) (k := 8) (x := 120) (y := 120) w0 (by omega) (by omega) hN (fun i _ => rfl)
  obtain ⟨fo2, go2, w2, e2, e2'⟩ := sim_put (N := N) (k := 8) (x := 156) (y := 156) w1 (by omega) (by omega) hN (fun i _ => rfl)
  obtain ⟨q, rfl⟩ : ∃ q, N = q + 20 := ⟨N - 20, by omega⟩
  have hb := head_bytes q
  have x1 : g_Mo_writeNumber_0 (q + 20) 9000 120 8 (fun _ => 0) 0 0 = _ := e1'
  have x2 : g_Mo_writeNumber_0 (q + 20) 9000 156 8 go1 (nI ((0 + 8 + 7) / 8)) (nI (0 + 8)) = _ := e2'
  rw [x1, Option.bind_some] at hb
  dsimp only at hb
  rw [x2, Option.bind_some] at hb
  dsimp only at hb
  have hb2 := Option.some.inj hb
  have b0 : go2 0 = 120 := congrArg Prod.fst hb2
  have b1 : go2 1 = 156 := congrArg Prod.snd hb2
  refine ⟨fo1, fo2, e1, e2, fun i hi => ?_⟩
  obtain ⟨b, hb, c1, c2⟩ := w2 i hi
  refine ⟨b, hb, ?_, c2⟩
  rw [← c1]
  have hi' : i = 0 ∨ i = 1 := by
    have : (16 + 7) / 8 = 2 := by decide
    omega
  rcases hi' with rfl | rfl
  · rw [pk_un (by omega), pk_us, b0]
  · rw [pk_us, b1]
theorem op_pack {N m mo : Nat} {f g fsl fdl fst fdt : Nat → Int32} {fo mxs mso ne sC dC it ms oc pr r2 r1 md trow tcc tit tmo tcl mst mdt tct : Nat → Int32} {vst vfx vmd vma vsi vfc vl vd vts vtd tki tlc : Int32} {go td A V cu or_ ln ls br li is la sc st sm sl_ rw_ : Nat → Int32} {tok sp : Int32} {pl ba bl um x y : Int32} (hN : 100000 ≤ N) (hb : rb f g m) (hm : m ≤ 8192) (a1 : mt fsl 0 288 fL) (wf1 : wk fL fst) (a2 : mt fdl 0 288 fD2) (wf2 : wk fD2 fdt) (hmo : mo ≤ 9000) (ho : rb fo go mo) (ht : tr td vst vfx vmd vma vsi bl um) (hl : lr la ms md) : ∃ R R', g_Bp_pack_0 N (nI m) 9000 257 9000 f 8192 8192 286 30 4096 288 286 572 572 572 288 316 19 316 316 288 288 fsl 288 fdl 288 288 288 288 fst 288 fdt x y vst vfx vmd vma vsi (nI mo) pl fo mxs mso ne vfc sC dC vl vd it ms oc pr r2 r1 md vts vtd trow tki tcc tit tmo tcl tlc mst mdt tct = some R ∧ g_Mo_pack_0 N (nI m) 9000 8 8192 g 4096 4096 320 288 320 15 600 600 9000 320 19 320 320 320 19 x y (nI mo) go ba td tok A V cu or_ ln ls br li is la sp sc st sm sl_ rw_ = some R' ∧ R.1 = R'.1 ∧ (∃ m' : Nat, m' ≤ 9000 ∧ R.2.2.2.2.2.2.1 = nI m' ∧ R'.2.1 = nI m' ∧ rb R.2.2.2.2.2.2.2.2.1 R'.2.2.1 m') ∧ tr R'.2.2.2.2.1 R.2.1 R.2.2.1 R.2.2.2.1 R.2.2.2.2.1 R.2.2.2.2.2.1 bl um ∧ lr R'.2.2.2.2.2.2.2.2.2.2.2.2.2.2.2.1 R.2.2.2.2.2.2.2.2.2.2.2.2.2.2.2.2.2.2.1 R.2.2.2.2.2.2.2.2.2.2.2.2.2.2.2.2.2.2.2.2.2.2.2.1 := by
  by_cases c1 : x < 0
  · refine ⟨_, _, by rw [g_Bp_pack_0, if_pos c1], by rw [g_Mo_pack_0, if_pos c1], rfl, ⟨mo, hmo, rfl, rfl, ho⟩, ht, hl⟩
  by_cases c2 : x ≤ 128
  · obtain ⟨ch, hch, rfl⟩ := nI_of2 (M := 128) (n := 128) rfl c1 c2
    obtain ⟨mxs', mso', ne', ep, hne⟩ := prep_ok (st := mxs) (so := mso) (ne := ne) hb hm hN
    obtain ⟨td1, M1, z1, z2, ez⟩ := told_zero (N := N) (m := m) (g := g) (td0 := td) (x1 := nI ch) (x2 := y) (os := nI mo) (ba := ba) (go := go) (tok := tok) (A := A) (V := V) (cu := cu) (or_ := or_) (ln := ln) (ls := ls) (br := br) (li := li) (is := is) (la := la) (sp := sp) (sc := sc) (st := st) (sm := sm) (sl_ := sl_) (rw_ := rw_) 6 0 td N (by omega) (by omega) (fun t h => absurd h (Nat.not_lt_zero t)) (fun t _ => rfl)
    obtain ⟨fo1, fo2, h1, h2, hw⟩ := sim_headw (fo := fo) (go := go) hN
    obtain ⟨p', fo', sC', dC', it', ms', oc', pr', r2', r1', md', trow', tcc', tit', tmo', tcl', mst', mdt', tct', vst', vfx', vmd', vma', vsi', vfc', vl', vd', vts', vtd', tki', tlc', go', td', A', V', cu', or_', ln', ls', br', li', is', la', sc', st', sm', sl_', rw_', tok', sp', hp', ho', u1, u2, u3, u4, u5, u0, u6, ul, eC, eR⟩ := run_loop (fsl := fsl) (fdl := fdl) (fst := fst) (fdt := fdt) (mxs := mxs') (mso := mso') (lz := y) hN a1 a2 wf1 wf2 hb hm hch hne 2 0 16 fo2 sC dC it ms oc pr r2 r1 md trow tcc tit tmo tcl mst mdt tct 0 0 0 0 0 vfc vl vd vts vtd tki tlc (upd (upd go 0 120) 1 156) td1 A V cu or_ ln ls br li is la sc st sm sl_ rw_ tok sp N N (by omega) (by omega) (by omega) (by omega) (Or.inl rfl) hw (by omega) (z1 1 (by omega)) (z1 2 (by omega)) (z1 3 (by omega)) (z1 4 (by omega)) (z1 5 (by omega)) (by rw [z1 0 (by omega)]; rfl)
    have eC' : g_Packer_run_L1 N 9000 (nI m) 9000 f 8192 286 30 4096 288 286 572 572 572 288 316 19 316 316 288 288 fsl 288 fdl 288 288 288 288 fst 288 fdt N (nI ch) y 0 0 0 0 0 0 (nI ((16 + 7) / 8)) (nI 16) fo2 mxs' mso' ne' vfc sC dC vl vd it ms oc pr r2 r1 md vts vtd trow tki tcc tit tmo tcl tlc mst mdt tct = _ := eC
    have eR' : g_Mo_pack_L2 N (nI m) 9000 8 8192 g 4096 4096 320 288 320 15 600 600 9000 320 19 320 320 320 19 N (nI ch) y 0 0 2 (upd (upd go 0 120) 1 156) 16 td1 tok A V cu or_ ln ls br li is la sp sc st sm sl_ rw_ = _ := eR
    have ez' : g_Mo_pack_L1 N (nI m) 9000 8 8192 g 4096 4096 320 288 320 15 600 600 9000 320 19 320 320 320 19 N (nI ch) y 0 (nI mo) go ba td tok A V cu or_ ln ls br li is la sp sc st sm sl_ rw_ = _ := ez
    have k0 : (0 : Int32).toNatClampNeg = 0 := rfl
    have k1 : (1 : Int32).toNatClampNeg = 1 := rfl
    refine ⟨(nI ((p' + 7) / 8), vst', vfx', vmd', vma', vsi', nI ((p' + 7) / 8), nI p', fo', mxs', mso', ne', vfc', sC', dC', vl', vd', it', ms', oc', pr', r2', r1', md', vts', vtd', trow', tki', tcc', tit', tmo', tcl', tlc', mst', mdt', tct'), (nI ((p' + 7) / 8), nI ((p' + 7) / 8), go', nI p', td', tok', A', V', cu', or_', ln', ls', br', li', is', la', sp', sc', st', sm', sl_', rw_'), ?_, ?_, rfl, ⟨(p' + 7) / 8, by omega, rfl, rfl, ho'⟩, ⟨u0, u1, u2, u3, u4, u5, (u6 6 (by omega)).trans ((z2 6 (by omega)).trans ht.2.2.2.2.2.2.1), (u6 7 (by omega)).trans ((z2 7 (by omega)).trans ht.2.2.2.2.2.2.2)⟩, ul⟩
    · rw [g_Bp_pack_0, if_neg c1, if_pos c2, g_Packer_run_0, g_Row_clear_0, Option.bind_some, h1, Option.bind_some]
      dsimp only
      rw [h2, Option.bind_some, ep, Option.bind_some]
      dsimp only
      rw [eC', Option.bind_some]
    · rw [g_Mo_pack_0, if_neg c1, if_pos c2, ez', g_Mo_pack_L1, if_pos (show (6 : Int32) ≤ nI 6 by decide), if_neg (show ¬ ((0 : Int32) < 0 ∨ 9000 ≤ (0 : Int32).toNatClampNeg) by decide), if_neg (show ¬ ((1 : Int32) < 0 ∨ 9000 ≤ (1 : Int32).toNatClampNeg) by decide), k0, k1, eR']
  · refine ⟨_, _, by rw [g_Bp_pack_0, if_neg c1, if_neg c2], by rw [g_Mo_pack_0, if_neg c1, if_neg c2], rfl, ⟨mo, hmo, rfl, rfl, ho⟩, ht, hl⟩
