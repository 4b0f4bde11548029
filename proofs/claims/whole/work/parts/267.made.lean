theorem sim_small {A V ln cl ft it mo sl_ st sm : Nat → Int32} {len3 : Nat → Nat} {k kk c N p0 : Nat} (hN : 100000 ≤ N) (hc : c ≤ 19) (m1 : mt cl 0 288 len3) (m2 : mt sl_ 0 19 len3) (hp : p0 + 3 * c ≤ 72000) : ∀ (d i : Nat) (fo go : Nat → Int32) (M M' : Nat), i + d = c → d < M → d < M' → wr fo go (p0 + 3 * i) → ∃ fo' go', wr fo' go' (p0 + 3 * c) ∧ g_Tale_write_L1 N (nI kk) (nI c) 9000 288 cl 288 316 it 316 mo M (nI i) fo (nI ((p0 + 3 * i + 7) / 8)) (nI (p0 + 3 * i)) ft = Option.bind (g_WriteCodes_makeCodes_0 N 288 cl 288 ft) (fun r5 => g_Tale_write_L2 N (nI kk) 9000 288 cl 288 316 it 316 mo N 0 fo' (nI ((p0 + 3 * c + 7) / 8)) (nI (p0 + 3 * c)) r5) ∧ g_Mo_writeMade_L1 N (nI k) (nI kk) 9000 19 sl_ 320 ln 4096 A 4096 V 320 st 320 sm M' (nI c) (nI i) go (nI ((p0 + 3 * i + 7) / 8)) (nI (p0 + 3 * i)) = g_Mo_writeMade_L2 N (nI k) (nI kk) 9000 19 sl_ 320 ln 4096 A 4096 V 320 st 320 sm N 0 go' (nI ((p0 + 3 * c + 7) / 8)) (nI (p0 + 3 * c)) := by
  intro d
  induction d with
  | zero =>
    intro i fo go M M' hi hM hM' ho
    obtain ⟨k1, rfl⟩ := succ_of hM
    obtain ⟨k2, rfl⟩ := succ_of hM'
    have e : i = c := by omega
    subst e
    refine ⟨fo, go, ho, ?_, ?_⟩
    · rw [g_Tale_write_L1, if_pos (nI_le (by omega) (by omega))]
    · rw [g_Mo_writeMade_L1, if_pos (nI_le (by omega) (by omega))]
  | succ d ih =>
    intro i fo go M M' hi hM hM' ho
    obtain ⟨k1, rfl⟩ := succ_of hM
    obtain ⟨k2, rfl⟩ := succ_of hM'
    obtain ⟨o1, o2⟩ := ord_lt i (by omega)
    obtain ⟨h1, _⟩ := m1 (ord i) (by omega)
    obtain ⟨h2, _⟩ := m2 (ord i) (by omega)
    rw [Nat.zero_add] at h1 h2
    obtain ⟨fo1, go1, w', e1, e1'⟩ := sim_put (N := N) (k := 3) (x := nI (len3 (ord i))) (y := nI (len3 (ord i))) ho (by omega) (by omega) hN (fun i _ => rfl)
    have q : p0 + 3 * i + 3 = p0 + 3 * (i + 1) := by omega
    rw [q] at w' e1 e1'
    obtain ⟨fo', go', w2', r1, r2⟩ := ih (i + 1) fo1 go1 k1 k2 (by omega) (by omega) (by omega) w'
    refine ⟨fo', go', w2', ?_, ?_⟩
    · have e1x : g_Row_putNumber_0 N 9000 (nI (len3 (ord i))) 3 fo _ _ = _ := e1
      rw [g_Tale_write_L1, if_neg (nI_ge (by omega) (by omega)), if_neg (nI_in (by omega) (by omega)), nI_clamp (n := i) (by omega), o2, if_neg (nI_in (by omega) (by omega)), nI_clamp (n := ord i) (by omega), h1, e1x, Option.bind_some, nI_1]
      exact r1
    · have e1x : g_Mo_writeNumber_0 N 9000 (nI (len3 (ord i))) 3 go _ _ = _ := e1'
      rw [g_Mo_writeMade_L1, if_neg (nI_ge (by omega) (by omega)), so_ok i (by omega), Option.bind_some, o2, if_neg (nI_in (by omega) (by omega)), nI_clamp (n := ord i) (by omega), h2, e1x, Option.bind_some, nI_1]
      exact r2
theorem sim_items {A V ln cl ft it mo cc sl_ st sm sc : Nat → Int32} {len3 : Nat → Nat} {k kk N p0 : Nat} (hN : 100000 ≤ N) (hkk : kk ≤ 316) (ht : ti kk it mo cc st sm sc) (m1 : mt cl 0 288 len3) (w1 : wk len3 ft) (m2 : mt sl_ 0 19 len3) (z3 : ∀ t, 19 ≤ t → len3 t = 0) (hp : p0 + sT st len3 kk ≤ 72000) : ∀ (d j : Nat) (fo go : Nat → Int32) (M M' : Nat), j + d = kk → d < M → d < M' → wr fo go (p0 + sT st len3 j) → ∃ fo' go', wr fo' go' (p0 + sT st len3 kk) ∧ g_Tale_write_L2 N (nI kk) 9000 288 cl 288 316 it 316 mo M (nI j) fo (nI ((p0 + sT st len3 j + 7) / 8)) (nI (p0 + sT st len3 j)) ft = some (fo', nI ((p0 + sT st len3 kk + 7) / 8), nI (p0 + sT st len3 kk), ft) ∧ g_Mo_writeMade_L2 N (nI k) (nI kk) 9000 19 sl_ 320 ln 4096 A 4096 V 320 st 320 sm M' (nI j) go (nI ((p0 + sT st len3 j + 7) / 8)) (nI (p0 + sT st len3 j)) = Option.bind (g_Mo_writeTokens_0 N (nI k) 320 ln 9000 4096 A 4096 V go' (nI ((p0 + sT st len3 kk + 7) / 8)) (nI (p0 + sT st len3 kk))) (fun r10 => some (r10.1, r10.2.1, r10.2.2)) := by
  intro d
  induction d with
  | zero =>
    intro j fo go M M' hj hM hM' ho
    obtain ⟨k1, rfl⟩ := succ_of hM
    obtain ⟨k2, rfl⟩ := succ_of hM'
    have e : j = kk := by omega
    subst e
    refine ⟨fo, go, ho, ?_, ?_⟩
    · rw [g_Tale_write_L2, if_pos (nI_le (by omega) (by omega))]
    · rw [g_Mo_writeMade_L2, if_pos (nI_le (by omega) (by omega))]
  | succ d ih =>
    intro j fo go M M' hj hM hM' ho
    obtain ⟨k1, rfl⟩ := succ_of hM
    obtain ⟨k2, rfl⟩ := succ_of hM'
    obtain ⟨s, hs, i1, i2, i3⟩ := ht.1 j (by omega)
    have mono := sT_mono st len3 d (j + 1)
    rw [show j + 1 + d = kk by omega] at mono
    have eb : sT st len3 (j + 1) = sT st len3 j + (len3 s + exb s) := by
      show sT st len3 j + (len3 (st j).toNatClampNeg + exb (st j).toNatClampNeg) = _
      rw [i2, nI_clamp (n := s) (by omega)]
    have hx := exb_le s hs
    obtain ⟨fo1, go1, w', e1, e1'⟩ := sim_code (a := 0) (n := 19) (n0 := 19) (s := s) m1 w1 m2 (by omega) (by omega) (by omega) (fun s a b => z3 s a) hs hN ho (by omega)
    obtain ⟨fo2, go2, w'', e2, e2'⟩ := sim_put (N := N) (k := exb s) (x := sm j) (y := sm j) w' (by omega) (by omega) hN (fun i _ => rfl)
    rw [show p0 + sT st len3 j + len3 s + exb s = p0 + sT st len3 (j + 1) by omega] at w'' e2 e2'
    obtain ⟨fo', go', w2', r1, r2⟩ := ih (j + 1) fo2 go2 k1 k2 (by omega) (by omega) (by omega) w''
    refine ⟨fo', go', w2', ?_, ?_⟩
    · rw [g_Tale_write_L2, if_neg (nI_ge (by omega) (by omega)), if_neg (nI_in (by omega) (by omega)), nI_clamp (n := j) (by omega), i1, e1, Option.bind_some, if_neg (nI_in2 (by omega) (by omega)), exb_ok s hs, Option.bind_some, i3]
      dsimp only
      rw [e2, Option.bind_some, nI_1]
      exact r1
    · have e1x : g_Mo_writeCode_0 N 19 sl_ 9000 0 19 (nI s) go _ _ = _ := e1'
      rw [g_Mo_writeMade_L2, if_neg (nI_ge (by omega) (by omega)), if_neg (nI_in (by omega) (by omega)), nI_clamp (n := j) (by omega), i2, e1x, Option.bind_some, if_neg (nI_in2 (by omega) (by omega)), stb_ok s hs, Option.bind_some]
      dsimp only
      rw [e2', Option.bind_some, nI_1]
      exact r2
/-- a made block but for its first bit -/
theorem sim_made {it A V ln fs_ ts fd tds fo go cl ft tit mo cc sl_ st sm sc : Nat → Int32} {len1 len2 len3 : Nat → Nat} {k kk h d c N p p' : Nat} (hN : 100000 ≤ N) (hk : k ≤ 4096) (ht : tk k it A V) (c1 : mt fs_ 0 288 len1) (w1 : wk len1 ts) (c2 : mt fd 0 288 len2) (w2 : wk len2 tds) (m1 : mt ln 0 288 len1) (m2 : mt ln 288 32 len2) (z2 : ∀ s, 32 ≤ s → s < 288 → len2 s = 0) (hkk : kk ≤ 316) (hti : ti kk tit mo cc st sm sc) (m3 : mt cl 0 288 len3) (m3' : mt sl_ 0 19 len3) (z3 : ∀ t, 19 ≤ t → len3 t = 0) (hc : c ≤ 19) (ho : wr fo go p) (hp' : p' = p + (2 + 14 + 3 * c + sT st len3 kk + (len1 256 + bT A V len1 len2 k))) (hp : p' ≤ 72000) : ∃ (fo1 fo2 ft' fo' go' : Nat → Int32) (q1 q2 : Nat), wr fo' go' p' ∧ g_Row_putNumber_0 N 9000 2 2 fo (nI ((p + 7) / 8)) (nI p) = some (fo1, nI ((q1 + 7) / 8), nI q1) ∧ g_Tale_write_0 N (nI kk) (nI h) (nI d) (nI c) 9000 288 cl 288 316 tit 316 mo fo1 (nI ((q1 + 7) / 8)) (nI q1) ft = some (fo2, nI ((q2 + 7) / 8), nI q2, ft') ∧ g_Found_write_0 N (nI k) 288 ts 288 fs_ 9000 4096 it 288 tds 288 fd fo2 (nI ((q2 + 7) / 8)) (nI q2) = some (fo', nI ((p' + 7) / 8), nI p') ∧ g_Mo_writeMade_0 N (nI k) (nI kk) 9000 19 sl_ 320 ln 4096 A 4096 V 320 st 320 sm (nI h) (nI d) (nI c) go (nI ((p + 7) / 8)) (nI p) = some (go', nI ((p' + 7) / 8), nI p') := by
  obtain ⟨fo1, go1, a1, e1, e1'⟩ := sim_put (N := N) (k := 2) (x := 2) (y := 2) ho (by omega) (by omega) hN (fun i _ => rfl)
  obtain ⟨fo2, go2, a2, e2, e2'⟩ := sim_put (N := N) (k := 5) (x := nI h - 257) (y := nI h - 257) a1 (by omega) (by omega) hN (fun i _ => rfl)
  obtain ⟨fo3, go3, a3, e3, e3'⟩ := sim_put (N := N) (k := 5) (x := nI d - 1) (y := nI d - 1) a2 (by omega) (by omega) hN (fun i _ => rfl)
  obtain ⟨fo4, go4, a4, e4, e4'⟩ := sim_put (N := N) (k := 4) (x := nI c - 4) (y := nI c - 4) a3 (by omega) (by omega) hN (fun i _ => rfl)
  obtain ⟨fo5, go5, a5, e5, e5'⟩ := sim_small (A := A) (V := V) (ln := ln) (ft := ft) (it := tit) (mo := mo) (st := st) (sm := sm) (k := k) (kk := kk) (p0 := p + 2 + 5 + 5 + 4) hN hc m3 m3' (by omega) c 0 fo4 go4 N N (by omega) (by omega) (by omega) a4
  obtain ⟨ft', e6, w6⟩ := makeCodes_ok (ft := ft) m3 hN
  obtain ⟨fo7, go7, a7, e7, e7'⟩ := sim_items (A := A) (V := V) (ln := ln) (k := k) (p0 := p + 2 + 5 + 5 + 4 + 3 * c) hN hkk hti m3 w6 m3' z3 (by omega) kk 0 fo5 go5 N N (by omega) (by omega) (by omega) a5
  obtain ⟨fo8, go8, a8, e8, e8'⟩ := sim_tokw hN hk ht c1 w1 c2 w2 m1 m2 z2 a7 (p' := p') (by omega) hp
  refine ⟨fo1, fo7, ft', fo8, go8, p + 2, _, a8, e1, ?_, e8, ?_⟩
  · have x2 : g_Row_putNumber_0 N 9000 (nI h - 257) 5 fo1 (nI ((p + 2 + 7) / 8)) (nI (p + 2)) = _ := e2
    have x3 : g_Row_putNumber_0 N 9000 (nI d - 1) 5 fo2 (nI ((p + 2 + 5 + 7) / 8)) (nI (p + 2 + 5)) = _ := e3
    have x4 : g_Row_putNumber_0 N 9000 (nI c - 4) 4 fo3 (nI ((p + 2 + 5 + 5 + 7) / 8)) (nI (p + 2 + 5 + 5)) = _ := e4
    have x5 : g_Tale_write_L1 N (nI kk) (nI c) 9000 288 cl 288 316 tit 316 mo N 0 fo4 (nI ((p + 2 + 5 + 5 + 4 + 7) / 8)) (nI (p + 2 + 5 + 5 + 4)) ft = _ := e5
    rw [g_Tale_write_0, x2, Option.bind_some]
    dsimp only
    rw [x3, Option.bind_some]
    dsimp only
    rw [x4, Option.bind_some]
    dsimp only
    rw [x5, e6, Option.bind_some]
    exact e7
  · have x1 : g_Mo_writeNumber_0 N 9000 2 2 go (nI ((p + 7) / 8)) (nI p) = _ := e1'
    have x2 : g_Mo_writeNumber_0 N 9000 (nI h - 257) 5 go1 (nI ((p + 2 + 7) / 8)) (nI (p + 2)) = _ := e2'
    have x3 : g_Mo_writeNumber_0 N 9000 (nI d - 1) 5 go2 (nI ((p + 2 + 5 + 7) / 8)) (nI (p + 2 + 5)) = _ := e3'
    have x4 : g_Mo_writeNumber_0 N 9000 (nI c - 4) 4 go3 (nI ((p + 2 + 5 + 5 + 7) / 8)) (nI (p + 2 + 5 + 5)) = _ := e4'
    have x5 : g_Mo_writeMade_L1 N (nI k) (nI kk) 9000 19 sl_ 320 ln 4096 A 4096 V 320 st 320 sm N (nI c) 0 go4 (nI ((p + 2 + 5 + 5 + 4 + 7) / 8)) (nI (p + 2 + 5 + 5 + 4)) = _ := e5'
    rw [g_Mo_writeMade_0, x1, Option.bind_some]
    dsimp only
    rw [x2, Option.bind_some]
    dsimp only
    rw [x3, Option.bind_some]
    dsimp only
    rw [x4, Option.bind_some]
    dsimp only
    refine x5.trans (Eq.trans e7' ?_)
    rw [e8', Option.bind_some]
