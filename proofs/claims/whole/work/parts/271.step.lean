theorem n0_s (A : Nat → Int32) (j : Nat) : n0s A (j + 1) = n0s A j + (if A j = 0 then 1 else 0) := by
  unfold n0s
  rw [ct_s]
  by_cases c : A j = 0
  · rw [if_pos (decide_eq_true c), if_pos c]
  · rw [if_neg (fun z => c (of_decide_eq_true z)), if_neg c]
theorem n1_s (A : Nat → Int32) (j : Nat) : n1s A (j + 1) = n1s A j + (if A j = 0 then 0 else 1) := by
  unfold n1s
  rw [ct_s]
  by_cases c : A j = 0
  · rw [if_neg (fun z => (of_decide_eq_true z) c), if_pos c]
  · rw [if_pos (decide_eq_true c), if_neg c]
theorem start_ok {vfc : Int32} {sC dC A V : Nat → Int32} {N : Nat} (hN : 100000 ≤ N) : ∃ sc dc, ks sc dc A V 0 ∧ g_Found_start_0 N 286 30 vfc sC dC = some (0, sc, dc) := by
  obtain ⟨s1, e1, h1⟩ := fill2_ok (n0 := 286) (v := 0) (f := sC) (by omega) hN
  obtain ⟨d1, e2, h2⟩ := fill2_ok (n0 := 30) (v := 0) (f := dC) (by omega) hN
  refine ⟨upd s1 256 1, d1, ⟨fun s hs => ?_, fun d hd => ?_⟩, ?_⟩
  · show _ = nI (0 + (if s = 256 then 1 else 0))
    by_cases c : s = 256
    · subst c; rw [pk_us, if_pos rfl]; rfl
    · rw [pk_un c, if_neg c, h1 s hs]; rfl
  · show _ = nI 0
    rw [h2 d hd]; rfl
  · rw [g_Found_start_0, e1, Option.bind_some, e2, Option.bind_some, if_neg (show ¬ ((256 : Int32) < 0 ∨ 286 ≤ (256 : Int32).toNatClampNeg) by decide)]
    rfl
theorem tell_loop {g go A V cu or_ ln ls br li is la sc st sm sl_ rw_ tdo : Nat → Int32} {x1 x2 x3 x4 x5 os ba sp t4 t5 : Int32} {K : Int32 → Int32 → Int32 → Int32 → Int32 → (Nat → Int32) → Int32 → (Nat → Int32) → Int32 → (Nat → Int32) → (Nat → Int32) → (Nat → Int32) → (Nat → Int32) → (Nat → Int32) → (Nat → Int32) → (Nat → Int32) → (Nat → Int32) → (Nat → Int32) → (Nat → Int32) → Int32 → (Nat → Int32) → (Nat → Int32) → (Nat → Int32) → (Nat → Int32) → (Nat → Int32) → Option (Int32 × Int32 × (Nat → Int32) × Int32 × (Nat → Int32) × Int32 × (Nat → Int32) × (Nat → Int32) × (Nat → Int32) × (Nat → Int32) × (Nat → Int32) × (Nat → Int32) × (Nat → Int32) × (Nat → Int32) × (Nat → Int32) × (Nat → Int32) × Int32 × (Nat → Int32) × (Nat → Int32) × (Nat → Int32) × (Nat → Int32) × (Nat → Int32))} {k N : Nat} {it : Nat → Int32} (hk : k ≤ 4096) (ht : tk k it A V) : ∀ (d j : Nat) (td : Nat → Int32) (M : Nat), j + d = k → d < M → td 4 = t4 + nI (n1s A j) → td 5 = t5 + nI (n0s A j) → (∀ t, t ≠ 4 → t ≠ 5 → td t = tdo t) → ∃ (td' : Nat → Int32) (M2 : Nat), td' 4 = t4 + nI (n1s A k) ∧ td' 5 = t5 + nI (n0s A k) ∧ (∀ t, t ≠ 4 → t ≠ 5 → td' t = tdo t) ∧ g_Mo_pack_L3 N 9000 8 8192 g 4096 4096 320 288 320 15 600 600 9000 320 19 320 320 320 19 K M x1 x2 x3 x4 x5 (nI j) os go ba td (nI k) A V cu or_ ln ls br li is la sp sc st sm sl_ rw_ = g_Mo_pack_L3 N 9000 8 8192 g 4096 4096 320 288 320 15 600 600 9000 320 19 320 320 320 19 K (M2 + 1) x1 x2 x3 x4 x5 (nI k) os go ba td' (nI k) A V cu or_ ln ls br li is la sp sc st sm sl_ rw_ := by
  intro d
  induction d with
  | zero =>
    intro j td M hj hM h4 h5 h6
    obtain ⟨q, rfl⟩ := succ_of hM
    have e : j = k := by omega
    subst e
    exact ⟨td, q, h4, h5, h6, rfl⟩
  | succ d ih =>
    intro j td M hj hM h4 h5 h6
    obtain ⟨q, rfl⟩ := succ_of hM
    by_cases c : A j = 0
    · obtain ⟨td', M2, r1, r2, r3, r⟩ := ih (j + 1) (upd td 5 (td 5 + 1)) q (by omega) (by omega) (by rw [pk_un (by omega), h4, n1_s, if_pos c, Nat.add_zero]) (by rw [pk_us, h5, n0_s, if_pos c, Int32.add_assoc, nI_1]) (fun t a b => by rw [pk_un b]; exact h6 t a b)
      refine ⟨td', M2, r1, r2, r3, ?_⟩
      have e5 : (5 : Int32).toNatClampNeg = 5 := rfl
      rw [← r, g_Mo_pack_L3, if_neg (nI_ge (by omega) (by omega)), if_neg (nI_in (by omega) (by omega)), nI_clamp (n := j) (by omega), if_pos (by rw [c]; decide), g_Mo_pack_J3, if_neg (show ¬ ((5 : Int32) < 0 ∨ 8 ≤ (5 : Int32).toNatClampNeg) by decide), nI_1, e5]
    · obtain ⟨td', M2, r1, r2, r3, r⟩ := ih (j + 1) (upd td 4 (td 4 + 1)) q (by omega) (by omega) (by rw [pk_us, h4, n1_s, if_neg c, Int32.add_assoc, nI_1]) (by rw [pk_un (by omega), h5, n0_s, if_neg c, Nat.add_zero]) (fun t a b => by rw [pk_un a]; exact h6 t a b)
      refine ⟨td', M2, r1, r2, r3, ?_⟩
      have e4 : (4 : Int32).toNatClampNeg = 4 := rfl
      have np : ¬ A j ≤ 0 := by
        rcases tok_in ht (show j < k by omega) with ⟨v, hv, a0, v0, i0, s0, d0, az⟩ | ⟨l, v, l1, l2, v1, v2, a0, v0, i0, s0, d0, an⟩
        · exact absurd az c
        · rw [a0]; exact nI_nle (by omega) (by omega)
      rw [← r, g_Mo_pack_L3, if_neg (nI_ge (by omega) (by omega)), if_neg (nI_in (by omega) (by omega)), nI_clamp (n := j) (by omega), if_neg np, g_Mo_pack_J3, if_neg (show ¬ ((4 : Int32) < 0 ∨ 8 ≤ (4 : Int32).toNatClampNeg) by decide), nI_1, e4]
/-- one block of both -/
theorem sim_step {N m fr n p ch : Nat} {f g fsl fdl fst fdt : Nat → Int32} {fo mxs mso ne sC dC it ms oc pr r2 r1 md trow tcc tit tmo tcl mst mdt tct : Nat → Int32} {vst vfx vmd vma vsi vfc vl vd vts vtd tki tlc : Int32} {go td A V cu or_ ln ls br li is la sc st sm sl_ rw_ : Nat → Int32} {tok sp : Int32} {lz : Int32} {K : Int32 → Int32 → Int32 → Int32 → Int32 → Int32 → Int32 → Int32 → Int32 → Int32 → (Nat → Int32) → (Nat → Int32) → (Nat → Int32) → (Nat → Int32) → Int32 → (Nat → Int32) → (Nat → Int32) → Int32 → Int32 → (Nat → Int32) → (Nat → Int32) → (Nat → Int32) → (Nat → Int32) → (Nat → Int32) → (Nat → Int32) → (Nat → Int32) → Int32 → Int32 → (Nat → Int32) → Int32 → (Nat → Int32) → (Nat → Int32) → (Nat → Int32) → (Nat → Int32) → Int32 → (Nat → Int32) → (Nat → Int32) → (Nat → Int32) → Option (Int32 × Int32 × Int32 × Int32 × Int32 × Int32 × Int32 × (Nat → Int32) × (Nat → Int32) × (Nat → Int32) × (Nat → Int32) × Int32 × (Nat → Int32) × (Nat → Int32) × Int32 × Int32 × (Nat → Int32) × (Nat → Int32) × (Nat → Int32) × (Nat → Int32) × (Nat → Int32) × (Nat → Int32) × (Nat → Int32) × Int32 × Int32 × (Nat → Int32) × Int32 × (Nat → Int32) × (Nat → Int32) × (Nat → Int32) × (Nat → Int32) × Int32 × (Nat → Int32) × (Nat → Int32) × (Nat → Int32))} {K' : Int32 → Int32 → Int32 → Int32 → Int32 → (Nat → Int32) → Int32 → (Nat → Int32) → Int32 → (Nat → Int32) → (Nat → Int32) → (Nat → Int32) → (Nat → Int32) → (Nat → Int32) → (Nat → Int32) → (Nat → Int32) → (Nat → Int32) → (Nat → Int32) → (Nat → Int32) → Int32 → (Nat → Int32) → (Nat → Int32) → (Nat → Int32) → (Nat → Int32) → (Nat → Int32) → Option (Int32 × Int32 × (Nat → Int32) × Int32 × (Nat → Int32) × Int32 × (Nat → Int32) × (Nat → Int32) × (Nat → Int32) × (Nat → Int32) × (Nat → Int32) × (Nat → Int32) × (Nat → Int32) × (Nat → Int32) × (Nat → Int32) × (Nat → Int32) × Int32 × (Nat → Int32) × (Nat → Int32) × (Nat → Int32) × (Nat → Int32) × (Nat → Int32))} (hN : 100000 ≤ N) (a1 : mt fsl 0 288 fL) (a2 : mt fdl 0 288 fD2) (wf1 : wk fL fst) (wf2 : wk fD2 fdt) (hb : rb f g m) (hm : m ≤ 8192) (hch : ch ≤ 128) (hne : ∀ x, x + 2 < m → ne x = pv g x x) (hfr : fr ≤ m) (hn : n = if m < fr + 4096 then m - fr else 4096) (ho : wr fo go p) (hp : p + 42 + 8 * n ≤ 72000) (t1 : td 1 = vst) (t2 : td 2 = vfx) (t3 : td 3 = vmd) (t4 : td 4 = vma) (t5 : td 5 = vsi) (t0 : td 0 = vst + vfx + vmd) : ∃ (p' : Nat) (fo' sC' dC' it' ms' oc' pr' r2' r1' md' trow' tcc' tit' tmo' tcl' mst' mdt' tct' : Nat → Int32) (vst' vfx' vmd' vma' vsi' vfc' vl' vd' vts' vtd' tki' tlc' : Int32) (go' td' A' V' cu' or_' ln' ls' br' li' is' la' sc' st' sm' sl_' rw_' : Nat → Int32) (tok' sp' : Int32), p' ≤ p + 42 + 8 * n ∧ wr fo' go' p' ∧ td' 1 = vst' ∧ td' 2 = vfx' ∧ td' 3 = vmd' ∧ td' 4 = vma' ∧ td' 5 = vsi' ∧ td' 0 = vst' + vfx' + vmd' ∧ (∀ t, 5 < t → td' t = td t) ∧ lr la' ms' md' ∧ g_Packer_run_J1 N 9000 (nI m) 9000 f 8192 286 30 4096 288 286 572 572 572 288 316 19 316 316 288 288 fsl 288 fdl 288 288 288 288 fst 288 fdt K (nI ch) lz (nI fr) vst vfx vmd vma vsi (nI ((p + 7) / 8)) (nI p) fo mxs mso ne vfc sC dC vl vd it ms oc pr r2 r1 md vts vtd trow tki tcc tit tmo tcl tlc mst mdt tct = K (nI ch) lz (nI (fr + 4096)) vst' vfx' vmd' vma' vsi' (nI ((p' + 7) / 8)) (nI p') fo' mxs mso ne vfc' sC' dC' vl' vd' it' ms' oc' pr' r2' r1' md' vts' vtd' trow' tki' tcc' tit' tmo' tcl' tlc' mst' mdt' tct' ∧ g_Mo_pack_J1 N (nI m) 9000 8 8192 g 4096 4096 320 288 320 15 600 600 9000 320 19 320 320 320 19 K' (nI ch) lz (nI fr) (nI (fr + n)) (nI ((p + 7) / 8)) go (nI p) td tok A V cu or_ ln ls br li is la sp sc st sm sl_ rw_ = K' (nI ch) lz (nI (fr + n)) (nI (if fr + n = m then 1 else 0)) (nI ((p' + 7) / 8)) go' (nI p') td' tok' A' V' cu' or_' ln' ls' br' li' is' la' sp' sc' st' sm' sl_' rw_' := by
  have hn1 : n ≤ 4096 := by rw [hn]; split <;> omega
  have hn2 : fr + n ≤ m := by rw [hn]; split <;> omega
  have hE : (if nI m < nI (fr + 4096) then nI m else nI (fr + 4096)) = nI (fr + n) := by
    by_cases c : m < fr + 4096
    · rw [if_pos (nI_lt c (by omega))]; rw [if_pos c] at hn; congr 1; omega
    · rw [if_neg (nI_nlt (by omega) (by omega))]; rw [if_neg c] at hn; congr 1; omega
  have h96 : nI fr + (4096 : Int32) = nI (fr + 4096) := nI_add fr 4096
  obtain ⟨sc0, dc0, hks0, es0⟩ := start_ok (vfc := vfc) (sC := sC) (dC := dC) (A := A) (V := V) hN
  obtain ⟨k, vl', vd', it', sC', dC', A', V', hk, ht, hks, ec1, er1⟩ := sim_tokens (ne := ne) (fr := fr) (e := fr + n) (lz := lz) (s0 := vsi) (m0 := vma) hb hm hn2 (by omega) hN hch hne n fr 0 0 vl vd it sc0 dc0 A V N N (by omega) (by omega) (by omega) (by omega) (by omega) (fun t h => absurd h (Nat.not_lt_zero t)) hks0 (Or.inl rfl)
  have hz0 : vsi + nI (n0s A 0) = vsi := Int32.add_zero vsi
  have hz1 : vma + nI (n1s A 0) = vma := Int32.add_zero vma
  rw [hz0, hz1] at ec1
  have hk6 : k ≤ 4096 := by omega
  obtain ⟨td1, M1, y4, y5, y6, eT⟩ := tell_loop (N := N) (g := g) (go := go) (cu := cu) (or_ := or_) (ln := ln) (ls := ls) (br := br) (li := li) (is := is) (la := la) (sc := sc) (st := st) (sm := sm) (sl_ := sl_) (rw_ := rw_) (tdo := td) (x1 := nI ch) (x2 := lz) (x3 := nI fr) (x4 := nI (if fr + n = m then 1 else 0)) (x5 := nI (fr + n)) (os := nI ((p + 7) / 8)) (ba := nI p) (sp := sp) (t4 := vma) (t5 := vsi) (K := K') hk6 ht k 0 td N (by omega) (by omega) (by rw [t4]; exact (Int32.add_zero vma).symm) (by rw [t5]; exact (Int32.add_zero vsi).symm) (fun t _ _ => rfl)
  obtain ⟨cu', hkr, eCu⟩ := cnt_ok (cu := cu) hN hk6 ht
  obtain ⟨len1, len2, ms', md', oc1, pr1, r21, r11, oc2, pr2, r22, r12, or1, ln1, ls1, br1, li1, is1, or2, ln2, ls2, br2, li2, is2, b1, b2, m1, m2, z1, z2, eL1, eL2, eF1, eF2⟩ := sim_both (fs_ := ms) (fd := md) (oc0 := oc) (pr0 := pr) (r20 := r2) (r10 := r1) (or_ := or_) (ln := ln) (ls := ls) (br := br) (li := li) (is := is) hN hks hkr
  obtain ⟨h, d, c, kk, len3, rowc, tit', mo', cc', cl', oc3, pr3, r23, r13, la', rw', st', sm', sc', sl', or3, ls3, br3, li3, is3, hh1, hh2, hd1, hd2, hc1, hc2, hkk, hti, b3, m3, h7, z3, hla, eMk, eP⟩ := sim_make (N := N) (k := k) (A := A') (V := V') (gi := g) (cu := cu') (or_ := or2) (ls := ls2) (br := br2) (li := li2) (is := is2) (la := la) (sc0 := sc) (st0 := st) (sm0 := sm) (sl0 := sl_) (rw_ := rw_) (go := go) (td := upd td1 0 (td1 0 + 1)) (frow := trow) (fcc := tcc) (fit := tit) (fmo := tmo) (fcl := tcl) (oc0 := oc2) (pr0 := pr2) (r20 := r22) (r10 := r12) (x1 := nI fr) (x2 := nI (fr + n)) (x3 := nI (if fr + n = m then 1 else 0)) (sp := sp) (os := nI ((p + 7) / 8)) (ba := nI p) (vs := vts) (vd := vtd) (vi := tki) (vlc := tlc) hN b1 b2 m1 m2
  have hpd : pd p < 8 := by unfold pd; omega
  obtain ⟨p', fo', go', mst', mdt', tct', lnE, td', vst', vmd', vfx', hp', ho', u1, u2, u3, u0, u4, us, eB, eBr⟩ := sim_block (h := h) (d := d) (c := c) (mst := mst) (mdt := mdt) (tct := tct) (cu := cu') (or_ := or3) (ls := ls3) (br := br3) (li := li3) (is := is3) (rw_ := rw') (td := upd td1 0 (td1 0 + 1)) (vst := vst) (vmd := vmd) (vfx := vfx) (x3 := nI (if fr + n = m then 1 else 0)) hN hk6 ht hks a1 a2 wf1 wf2 b1 b2 b3 m1 m2 m3 hla z2 h7 z3 hkk hc2 hti hm hn2 hn1 hb ho (by
      by_cases z : fr + n = m
      · rw [if_pos z]; exact ⟨fun q => absurd q (by decide), fun q => absurd z q⟩
      · rw [if_neg z]; exact ⟨fun _ => z, fun _ => rfl⟩) (by omega) (by rw [pk_un (by omega), y6 1 (by omega) (by omega)]; exact t1) (by rw [pk_un (by omega), y6 2 (by omega) (by omega)]; exact t2) (by rw [pk_un (by omega), y6 3 (by omega) (by omega)]; exact t3)
  refine ⟨p', fo', sC', dC', it', ms', oc3, pr3, r23, r13, md', rowc, cc', tit', mo', cl', mst', mdt', tct', vst', vfx', vmd', vma + nI (n1s A' k), vsi + nI (n0s A' k), nI k, vl', vd', nI h, nI d, nI kk, nI c, go', td', A', V', cu', or3, lnE, ls3, br3, li3, is3, la', sc', st', sm', sl', rw', nI k, nI kk, by omega, ho', u1, u2, u3, ?_, ?_, ?_, ?_, ?_, ?_, ?_⟩
  · rw [u4 4 (by omega), pk_un (by omega), y4]
  · rw [u4 5 (by omega), pk_un (by omega), y5]
  · rw [u0, pk_us, y6 0 (by omega) (by omega), t0, us]
  · intro t ht; rw [u4 t (by omega), pk_un (by omega), y6 t (by omega) (by omega)]
  · refine ⟨fun s hs => ?_, fun s hs => ?_⟩
    · have q1 := (m1 s (by omega)).1
      have q2 := (b1 s (by omega)).1
      rw [Nat.zero_add] at q1 q2
      rw [hla s (by omega), q1, q2]
    · have q1 := (m2 s (by omega)).1
      have q2 := (b2 s (by omega)).1
      rw [Nat.zero_add] at q2
      rw [hla (288 + s) (by omega), q1, q2]
  · have x1 : g_Packer_findSymbols_0 N 286 30 (nI m) 8192 ne 9000 f 4096 (nI fr) (nI (fr + n)) (nI ch) lz vfc sC dC vl vd it vsi vma = some (nI k, sC', dC', vl', vd', it', vsi + nI (n0s A' k), vma + nI (n1s A' k)) := by
      rw [g_Packer_findSymbols_0, es0, Option.bind_some]
      exact ec1
    rw [g_Packer_run_J1, h96, hE, x1, Option.bind_some]
    dsimp only
    rw [eL1, Option.bind_some]
    dsimp only
    rw [eL2, Option.bind_some]
    dsimp only
    rw [eMk, Option.bind_some]
    dsimp only
    rw [eB, Option.bind_some]
  · have x1 : g_Mo_findTokens_0 N 8192 g 4096 4096 (nI fr) (nI (fr + n)) (nI ch) lz tok A V = some (nI k, A', V') := by
      rw [g_Mo_findTokens_0]
      exact er1
    have x0 : g_Mo_pack_J1 N (nI m) 9000 8 8192 g 4096 4096 320 288 320 15 600 600 9000 320 19 320 320 320 19 K' (nI ch) lz (nI fr) (nI (fr + n)) (nI ((p + 7) / 8)) go (nI p) td tok A V cu or_ ln ls br li is la sp sc st sm sl_ rw_ = g_Mo_pack_J2 N 9000 8 8192 g 4096 4096 320 288 320 15 600 600 9000 320 19 320 320 320 19 K' (nI ch) lz (nI fr) (nI (fr + n)) (nI (if fr + n = m then 1 else 0)) (nI ((p + 7) / 8)) go (nI p) td tok A V cu or_ ln ls br li is la sp sc st sm sl_ rw_ := by
      rw [g_Mo_pack_J1]
      by_cases z : fr + n = m
      · rw [if_pos (by rw [z]), if_pos z]; rfl
      · rw [if_neg (by rw [nI_eq (by omega) (by omega)]; exact z), if_neg z]; rfl
    have eT' : g_Mo_pack_L3 N 9000 8 8192 g 4096 4096 320 288 320 15 600 600 9000 320 19 320 320 320 19 K' N (nI ch) lz (nI fr) (nI (if fr + n = m then 1 else 0)) (nI (fr + n)) 0 (nI ((p + 7) / 8)) go (nI p) td (nI k) A' V' cu or_ ln ls br li is la sp sc st sm sl_ rw_ = _ := eT
    have e0 : (0 : Int32).toNatClampNeg = 0 := rfl
    have xP : g_Mo_packPart_0 N (nI k) 320 4096 A' 4096 V' 288 320 15 600 600 9000 320 19 320 320 320 19 9000 8 8192 g (nI fr) (nI (fr + n)) (nI (if fr + n = m then 1 else 0)) cu or_ ln ls br li is la sp sc st sm sl_ rw_ go (nI ((p + 7) / 8)) (nI p) (upd td1 0 (td1 0 + 1)) = some (cu', or3, lnE, ls3, br3, li3, is3, la', nI kk, sc', st', sm', sl', rw', go', nI ((p' + 7) / 8), nI p', td') := by
      rw [g_Mo_packPart_0, eCu, Option.bind_some, eF1, Option.bind_some]
      dsimp only
      rw [eF2, Option.bind_some]
      dsimp only
      exact eP.trans eBr
    rw [x0, g_Mo_pack_J2, x1, Option.bind_some]
    dsimp only
    rw [eT', g_Mo_pack_L3, if_pos (nI_le (by omega) (by omega)), if_neg (show ¬ ((0 : Int32) < 0 ∨ 8 ≤ (0 : Int32).toNatClampNeg) by decide), e0, xP, Option.bind_some]
