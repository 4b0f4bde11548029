theorem one_add3 (a b c : Int32) : a + 1 + b + c = a + b + c + 1 ∧ a + (b + 1) + c = a + b + c + 1 ∧ a + b + (c + 1) = a + b + c + 1 := by
  refine ⟨?_, ?_, ?_⟩
  · rw [Int32.add_assoc a 1 b, Int32.add_comm 1 b, ← Int32.add_assoc a b 1, Int32.add_assoc (a + b) 1 c, Int32.add_comm 1 c, ← Int32.add_assoc]
  · rw [← Int32.add_assoc a b 1, Int32.add_assoc (a + b) 1 c, Int32.add_comm 1 c, ← Int32.add_assoc]
  · rw [← Int32.add_assoc]
theorem ci3 : (3 : Int32).toNatClampNeg = 3 := rfl
theorem ci2 : (2 : Int32).toNatClampNeg = 2 := rfl
theorem ci1 : (1 : Int32).toNatClampNeg = 1 := rfl
theorem told_in {c : Nat} (h : c < 8) : ¬ (nI c < 0 ∨ 8 ≤ (nI c).toNatClampNeg) := nI_in h (by omega)
theorem sim_block {N k kk h d c m fr n p : Nat} {A V sC dC fsl fdl cc cl ms md f g tit mo st sm sc it fst fdt fo mst mdt tct cu or_ ln ls br li is la sl_ rw_ go td : Nat → Int32} {vst vmd vfx x3 : Int32} {len1 len2 len3 : Nat → Nat} (hN : 100000 ≤ N) (hk : k ≤ 4096) (ht : tk k it A V) (hks : ks sC dC A V k) (a1 : mt fsl 0 288 fL) (a2 : mt fdl 0 288 fD2) (wf1 : wk fL fst) (wf2 : wk fD2 fdt) (b1 : mt ms 0 288 len1) (b2 : mt md 0 288 len2) (b3 : mt cl 0 288 len3) (m1 : mt ln 0 288 len1) (m2 : mt ln 288 32 len2) (m3 : mt sl_ 0 19 len3) (hla : ∀ t, t < 320 → la t = ln t) (z2 : ∀ t, 30 ≤ t → len2 t = 0) (h7 : ∀ t, len3 t ≤ 7) (z3 : ∀ t, 19 ≤ t → len3 t = 0) (hkk : kk ≤ 316) (hc : c ≤ 19) (hti : ti kk tit mo cc st sm sc) (hm : m ≤ 8192) (hn : fr + n ≤ m) (hn2 : n ≤ 4096) (hb : rb f g m) (ho : wr fo go p) (hx : x3 = 0 ↔ ¬ fr + n = m) (hp : p + 3 + pd p + 32 + 8 * n ≤ 72000) (t1 : td 1 = vst) (t2 : td 2 = vfx) (t3 : td 3 = vmd) : ∃ (p' : Nat) (fo' go' mst' mdt' tct' lnE td' : Nat → Int32) (vst' vmd' vfx' : Int32), p' ≤ p + 3 + pd p + 32 + 8 * n ∧ wr fo' go' p' ∧ td' 1 = vst' ∧ td' 2 = vfx' ∧ td' 3 = vmd' ∧ td' 0 = td 0 ∧ (∀ t, 3 < t → td' t = td t) ∧ vst' + vfx' + vmd' = vst + vfx + vmd + 1 ∧ g_Packer_writeBlock_0 N (nI k) 286 sC 288 fsl 30 dC 288 fdl (nI kk) (nI h) (nI d) (nI c) 19 cc 288 cl 288 ms 288 md (nI m) 9000 9000 f 288 288 288 316 tit 316 mo 4096 it 288 fst 288 fdt (nI fr) (nI (fr + n)) fo (nI ((p + 7) / 8)) (nI p) vst vmd mst mdt tct vfx = some (fo', nI ((p' + 7) / 8), nI p', vst', vmd', mst', mdt', tct', vfx') ∧ g_Mo_packPart_J2 N (nI k) 4096 A 4096 V 320 320 320 320 19 9000 8 8192 g (nI fr) (nI (fr + n)) x3 (nI h) (nI d) (nI c) cu or_ ln ls br li is la (nI kk) sc st sm sl_ rw_ go (nI ((p + 7) / 8)) (nI p) td = some (cu, or_, lnE, ls, br, li, is, la, nI kk, sc, st, sm, sl_, rw_, go', nI ((p' + 7) / 8), nI p', td') := by
  obtain ⟨ln', f1, f2, er⟩ := blk_ref (h := h) (d := d) (c := c) (gi := g) (cu := cu) (or_ := or_) (ls := ls) (br := br) (li := li) (is := is) (la := la) (rw_ := rw_) (go := go) (td := td) (os := nI ((p + 7) / 8)) hN hk ht m1 m2 m3 hkk hti hx (show p ≤ 72000 by omega)
  have ec := blk_cls (h := h) (d := d) (c := c) (f := f) (fst := fst) (fdt := fdt) (fo := fo) (mst := mst) (mdt := mdt) (tct := tct) (vst := vst) (vmd := vmd) (vfx := vfx) hN ht hks a1 a2 b1 b2 b3 hti hm hn (show p ≤ 72000 by omega)
  have l1 : ∀ s, s < 288 → len1 s ≤ 15 := fun s hs => (b1 s hs).2
  have l2 : ∀ s, s < 30 → len2 s ≤ 15 := fun s hs => (b2 s (by omega)).2
  have q1 := bT_le (len1 := len1) (len2 := len2) ht l1 l2 k (Nat.le_refl _)
  have q2 := bT_le (len1 := fL) (len2 := fD2) ht (fun s _ => fL_le s) (fun s _ => by unfold fD2; split <;> omega) k (Nat.le_refl _)
  have q3 := sT_le hti h7 kk (Nat.le_refl _)
  have q4 := l1 256 (by omega)
  have q5 := fL_le 256
  have q6 : pd p < 8 := by unfold pd; omega
  obtain ⟨S, hS⟩ : ∃ S, S = pd p + 32 + 8 * n := ⟨_, rfl⟩
  obtain ⟨F, hF⟩ : ∃ F, F = fL 256 + bT A V fL fD2 k := ⟨_, rfl⟩
  obtain ⟨D, hD⟩ : ∃ D, D = 14 + 3 * c + sT st len3 kk + (len1 256 + bT A V len1 len2 k) := ⟨_, rfl⟩
  rw [← hS, ← hF, ← hD] at er ec
  have hv : (if fr + n = m then 1 else 0) < 2 := by split <;> omega
  obtain ⟨fo1, go1, w1, e1, e1'⟩ := sim_bit ho hv (by omega) hN
  rw [g_Packer_writeBlock_J1, e1, Option.bind_some] at ec
  rw [g_Mo_packPart_J3, e1', Option.bind_some] at er
  dsimp only at ec er
  have c1 : (nI F < nI S) ↔ F < S := nI_ltI (by omega) (by omega)
  have c2 : (nI D < nI S) ↔ D < S := nI_ltI (by omega) (by omega)
  have c3 : (nI D < nI F) ↔ D < F := nI_ltI (by omega) (by omega)
  have c1' : (nI (3 + F) < nI (3 + S)) ↔ F < S := (nI_ltI (by omega) (by omega)).trans (by omega)
  have c2' : (nI (3 + D) < nI (3 + S)) ↔ D < S := (nI_ltI (by omega) (by omega)).trans (by omega)
  have c3' : (nI (3 + D) < nI (3 + F)) ↔ D < F := (nI_ltI (by omega) (by omega)).trans (by omega)
  by_cases k0 : F < S ∨ D < S
  · obtain ⟨ec2, er2⟩ : g_Packer_writeBlock_0 N (nI k) 286 sC 288 fsl 30 dC 288 fdl (nI kk) (nI h) (nI d) (nI c) 19 cc 288 cl 288 ms 288 md (nI m) 9000 9000 f 288 288 288 316 tit 316 mo 4096 it 288 fst 288 fdt (nI fr) (nI (fr + n)) fo (nI ((p + 7) / 8)) (nI p) vst vmd mst mdt tct vfx = g_Packer_writeBlock_J2 N (nI k) 288 fsl 288 fdl (nI kk) (nI h) (nI d) (nI c) 288 cl 288 ms 288 md 9000 288 288 288 316 tit 316 mo 4096 it 288 fst 288 fdt (nI F) (nI D) fo1 (nI ((p + 1 + 7) / 8)) (nI (p + 1)) vst vmd mst mdt tct vfx ∧ g_Mo_packPart_J2 N (nI k) 4096 A 4096 V 320 320 320 320 19 9000 8 8192 g (nI fr) (nI (fr + n)) x3 (nI h) (nI d) (nI c) cu or_ ln ls br li is la (nI kk) sc st sm sl_ rw_ go (nI ((p + 7) / 8)) (nI p) td = g_Mo_packPart_J4 N (nI k) 4096 A 4096 V 320 320 320 320 19 9000 8 (nI h) (nI d) (nI c) (nI (3 + D)) (nI (3 + F)) cu or_ ln' ls br li is la (nI kk) sc st sm sl_ rw_ go1 (nI ((p + 1 + 7) / 8)) (nI (p + 1)) td := by
      by_cases k1 : F < S
      · rw [if_pos (c1.mpr k1)] at ec
        rw [if_pos (c1'.mpr k1)] at er
        exact ⟨ec, er⟩
      · have k2 : D < S := k0.resolve_left k1
        rw [if_neg (fun z => k1 (c1.mp z)), if_pos (c2.mpr k2)] at ec
        rw [if_neg (fun z => k1 (c1'.mp z)), if_pos (c2'.mpr k2)] at er
        exact ⟨ec, er⟩
    rw [g_Packer_writeBlock_J2] at ec2
    rw [g_Mo_packPart_J4] at er2
    by_cases k3 : D < F
    · rw [if_pos (c3.mpr k3)] at ec2
      rw [if_pos (c3'.mpr k3), if_neg (show ¬ ((3 : Int32) < 0 ∨ 8 ≤ (3 : Int32).toNatClampNeg) by decide), ci3] at er2
      obtain ⟨lnE, M2, hE, eE⟩ := back_loop (N := N) (k := k) (A := A) (V := V) (cu := cu) (or_ := or_) (ls := ls) (br := br) (li := li) (is := is) (la := la) (sc := sc) (st := st) (sm := sm) (sl_ := sl_) (rw_ := rw_) (go := go1) (td := upd td 3 (td 3 + 1)) (x4 := nI h) (x5 := nI d) (x6 := nI c) (sp := nI kk) (os := nI ((p + 1 + 7) / 8)) (ba := nI (p + 1)) 320 0 ln' N (by omega) (by omega) (fun t h => absurd h (Nat.not_lt_zero t))
      have eE' : g_Mo_packPart_L5 N (nI k) 4096 A 4096 V 320 320 320 320 19 9000 N (nI h) (nI d) (nI c) 0 cu or_ ln' ls br li is la (nI kk) sc st sm sl_ rw_ go1 (nI ((p + 1 + 7) / 8)) (nI (p + 1)) (upd td 3 (td 3 + 1)) = _ := eE
      have n1 : mt lnE 0 288 len1 := fun s hs => by rw [hE (0 + s) (by omega), hla (0 + s) (by omega)]; exact m1 s hs
      have n2 : mt lnE 288 32 len2 := fun s hs => by rw [hE (288 + s) (by omega), hla (288 + s) (by omega)]; exact m2 s hs
      obtain ⟨ts', eT, wT⟩ := makeCodes_ok (ft := mst) b1 hN
      obtain ⟨td2', eT2, wT2⟩ := makeCodes_ok (ft := mdt) b2 hN
      obtain ⟨fo2, fo3, ft', fo', go', y1, y2, w2, g1, g2, g3, g4⟩ := sim_made (h := h) (d := d) (ft := tct) hN hk ht b1 wT b2 wT2 n1 n2 (fun s a _ => z2 s (by omega)) hkk hti b3 m3 z3 hc w1 (p' := p + 1 + (2 + D)) (by omega) (by omega)
      refine ⟨p + 1 + (2 + D), fo', go', ts', td2', ft', lnE, upd td 3 (td 3 + 1), vst, vmd + 1, vfx, by omega, w2, ?_, ?_, ?_, ?_, ?_, ?_, ?_, ?_⟩
      · rw [pk_un (by omega)]; exact t1
      · rw [pk_un (by omega)]; exact t2
      · rw [pk_us, t3]
      · rw [pk_un (by omega)]
      · intro t ht; rw [pk_un (by omega)]
      · exact (one_add3 vst vfx vmd).2.2
      · rw [ec2, eT, Option.bind_some, eT2, Option.bind_some, g1, Option.bind_some]
        dsimp only
        rw [g2, Option.bind_some]
        dsimp only
        rw [g3, Option.bind_some]
      · rw [er2, eE', g_Mo_packPart_L5, if_pos (show (320 : Int32) ≤ nI 320 by decide), g4, Option.bind_some]
    · rw [if_neg (fun z => k3 (c3.mp z))] at ec2
      rw [if_neg (fun z => k3 (c3'.mp z)), if_neg (show ¬ ((2 : Int32) < 0 ∨ 8 ≤ (2 : Int32).toNatClampNeg) by decide), ci2] at er2
      obtain ⟨fo2, go2, w2, e2, e2'⟩ := sim_put (N := N) (k := 2) (x := 1) (y := 1) w1 (by omega) (by omega) hN (fun i _ => rfl)
      obtain ⟨fo3, go3, w3, e3, e3'⟩ := sim_tokw hN hk ht a1 wf1 a2 wf2 f1 f2 (fun s a _ => by unfold fD2; rw [if_neg (by omega)]) w2 (p' := p + 1 + (2 + F)) (by omega) (by omega)
      have x2 : g_Row_putNumber_0 N 9000 1 2 fo1 (nI ((p + 1 + 7) / 8)) (nI (p + 1)) = _ := e2
      have x2' : g_Mo_writeNumber_0 N 9000 1 2 go1 (nI ((p + 1 + 7) / 8)) (nI (p + 1)) = _ := e2'
      refine ⟨p + 1 + (2 + F), fo3, go3, mst, mdt, tct, ln', upd td 2 (td 2 + 1), vst, vmd, vfx + 1, by omega, w3, ?_, ?_, ?_, ?_, ?_, ?_, ?_, ?_⟩
      · rw [pk_un (by omega)]; exact t1
      · rw [pk_us, t2]
      · rw [pk_un (by omega)]; exact t3
      · rw [pk_un (by omega)]
      · intro t ht; rw [pk_un (by omega)]
      · exact (one_add3 vst vfx vmd).2.1
      · rw [ec2, x2, Option.bind_some]
        dsimp only
        rw [e3, Option.bind_some]
      · rw [er2, x2', Option.bind_some]
        dsimp only
        rw [e3', Option.bind_some]
  · have k1 : ¬ F < S := fun z => k0 (Or.inl z)
    have k2 : ¬ D < S := fun z => k0 (Or.inr z)
    rw [if_neg (fun z => k1 (c1.mp z)), if_neg (fun z => k2 (c2.mp z))] at ec
    rw [if_neg (fun z => k1 (c1'.mp z)), if_neg (fun z => k2 (c2'.mp z)), if_neg (show ¬ ((1 : Int32) < 0 ∨ 8 ≤ (1 : Int32).toNatClampNeg) by decide), ci1] at er
    obtain ⟨fo2, go2, w2, e2, e2'⟩ := sim_storedw hN hb hm hn hn2 w1 (p' := p + 3 + pd p + 32 + 8 * n) (by rw [pd_end]) (by omega)
    refine ⟨p + 3 + pd p + 32 + 8 * n, fo2, go2, mst, mdt, tct, ln', upd td 1 (td 1 + 1), vst + 1, vmd, vfx, Nat.le_refl _, w2, ?_, ?_, ?_, ?_, ?_, ?_, ?_, ?_⟩
    · rw [pk_us, t1]
    · rw [pk_un (by omega)]; exact t2
    · rw [pk_un (by omega)]; exact t3
    · rw [pk_un (by omega)]
    · intro t ht; rw [pk_un (by omega)]
    · exact (one_add3 vst vfx vmd).1
    · rw [ec, e2, Option.bind_some]
    · rw [er, e2', Option.bind_some]
