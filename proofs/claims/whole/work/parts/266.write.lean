theorem bT_mono (A V : Nat → Int32) (len1 len2 : Nat → Nat) : ∀ (d t : Nat), bT A V len1 len2 t ≤ bT A V len1 len2 (t + d) := by
  intro d
  induction d with
  | zero => intro t; exact Nat.le_refl _
  | succ d ih =>
    intro t
    have := ih t
    show _ ≤ bT A V len1 len2 (t + d) + tw A V len1 len2 (t + d)
    omega
theorem sT_mono (st : Nat → Int32) (len : Nat → Nat) : ∀ (d t : Nat), sT st len t ≤ sT st len (t + d) := by
  intro d
  induction d with
  | zero => intro t; exact Nat.le_refl _
  | succ d ih =>
    intro t
    have := ih t
    show _ ≤ sT st len (t + d) + (len (st (t + d)).toNatClampNeg + exb (st (t + d)).toNatClampNeg)
    omega
theorem hi16 {l v : Nat} (hl : l ≤ 258) (hv : v ≤ 8191) : nI (l * 65536 + v) >>> ((16 : Int32) &&& 31) = nI l := by
  rw [pk_shrN (by omega) ((16 : Int32) &&& 31) 16 (by decide)]
  congr 1; omega
theorem lo16 {l v : Nat} (hl : l ≤ 258) (hv : v ≤ 8191) : nI (l * 65536 + v) &&& (65535 : Int32) = nI v := by
  rw [pk_andN (by omega) 16 (by decide)]
  congr 1; omega
/-- one match, written by both -/
theorem sim_match1 {fs_ ts fd tds ln fo go : Nat → Int32} {len1 len2 : Nat → Nat} {l v p N : Nat} (hN : 100000 ≤ N) (l1 : 3 ≤ l) (l2 : l ≤ 258) (v1 : 1 ≤ v) (v2 : v ≤ 8191) (c1 : mt fs_ 0 288 len1) (w1 : wk len1 ts) (c2 : mt fd 0 288 len2) (w2 : wk len2 tds) (m1 : mt ln 0 288 len1) (m2 : mt ln 288 32 len2) (z2 : ∀ s, 32 ≤ s → s < 288 → len2 s = 0) (ho : wr fo go p) (hp : p + len1 (lS l) + eS (lS l) + len2 (dS v) + eD (dS v) ≤ 72000) : ∃ (fo1 go1 fo2 go2 fo3 go3 fo4 go4 : Nat → Int32) (q1 q2 q3 : Nat), q1 = p + len1 (lS l) ∧ q2 = q1 + eS (lS l) ∧ q3 = q2 + len2 (dS v) ∧ wr fo4 go4 (q3 + eD (dS v)) ∧ g_Found_writeMatch_0 N 288 ts 288 fs_ 9000 288 tds 288 fd (nI (l * 65536 + v)) fo (nI ((p + 7) / 8)) (nI p) = some (fo4, nI ((q3 + eD (dS v) + 7) / 8), nI (q3 + eD (dS v))) ∧ g_Mo_writeCode_0 N 320 ln 9000 0 288 (nI (lS l)) go (nI ((p + 7) / 8)) (nI p) = some (go1, nI ((q1 + 7) / 8), nI q1) ∧ g_Mo_writeNumber_0 N 9000 (nI l - nI (bS (lS l))) (nI (eS (lS l))) go1 (nI ((q1 + 7) / 8)) (nI q1) = some (go2, nI ((q2 + 7) / 8), nI q2) ∧ g_Mo_writeCode_0 N 320 ln 9000 288 32 (nI (dS v)) go2 (nI ((q2 + 7) / 8)) (nI q2) = some (go3, nI ((q3 + 7) / 8), nI q3) ∧ g_Mo_writeNumber_0 N 9000 (nI v - nI (bD (dS v))) (nI (eD (dS v))) go3 (nI ((q3 + 7) / 8)) (nI q3) = some (go4, nI ((q3 + eD (dS v) + 7) / 8), nI (q3 + eD (dS v))) := by
  obtain ⟨ls1, ls2⟩ := lS_in l1 l2
  obtain ⟨ds1, _, _⟩ := dS_in v1 v2
  obtain ⟨_, _, g3, g4, g5⟩ := eSl ls1 ls2
  obtain ⟨h1, _, h3, _, h5, _⟩ := eD_ok (dS v) (by omega)
  obtain ⟨fo1, go1, w', e1, e1'⟩ := sim_code (a := 0) (n := 288) (n0 := 320) (s := lS l) c1 w1 m1 (by omega) (by omega) (by omega) (fun s a b => by omega) (by omega) hN ho (by omega)
  obtain ⟨fo2, go2, w'', e2, e2'⟩ := sim_put (N := N) (k := eS (lS l)) (x := nI l - nI (bS (lS l))) (y := nI l - nI (bS (lS l))) w' (by omega) (by omega) hN (fun i _ => rfl)
  obtain ⟨fo3, go3, w3, e3, e3'⟩ := sim_code (a := 288) (n := 32) (n0 := 320) (s := dS v) c2 w2 m2 (by omega) (by omega) (by omega) z2 (by omega) hN w'' (by omega)
  obtain ⟨fo4, go4, w4, e4, e4'⟩ := sim_put (N := N) (k := eD (dS v)) (x := nI v - nI (bD (dS v))) (y := nI v - nI (bD (dS v))) w3 (by omega) (by omega) hN (fun i _ => rfl)
  refine ⟨fo1, go1, fo2, go2, fo3, go3, fo4, go4, _, _, _, rfl, rfl, rfl, w4, ?_, e1', e2', e3', e4'⟩
  rw [g_Found_writeMatch_0, hi16 l2 v2, lo16 l2 v2, sL_cls l1 l2 hN, Option.bind_some, e1, Option.bind_some, g4, Option.bind_some, g3, Option.bind_some]
  dsimp only
  rw [e2, Option.bind_some, sD_cls v1 v2 hN, Option.bind_some]
  dsimp only
  rw [e3, Option.bind_some, h3, Option.bind_some, h1, Option.bind_some]
  dsimp only
  rw [e4, Option.bind_some]
theorem sim_write {it A V ln fs_ ts fd tds : Nat → Int32} {len1 len2 : Nat → Nat} {k N p0 : Nat} (hN : 100000 ≤ N) (hk : k ≤ 4096) (h : tk k it A V) (c1 : mt fs_ 0 288 len1) (w1 : wk len1 ts) (c2 : mt fd 0 288 len2) (w2 : wk len2 tds) (m1 : mt ln 0 288 len1) (m2 : mt ln 288 32 len2) (z2 : ∀ s, 32 ≤ s → s < 288 → len2 s = 0) (hp : p0 + bT A V len1 len2 k + len1 256 ≤ 72000) : ∀ (d t : Nat) (fo go : Nat → Int32) (M M' : Nat), t + d = k → d < M → d < M' → wr fo go (p0 + bT A V len1 len2 t) → ∃ fo' go', wr fo' go' (p0 + bT A V len1 len2 k + len1 256) ∧ g_Found_write_L1 N (nI k) 288 ts 288 fs_ 9000 4096 it 288 tds 288 fd M (nI t) fo (nI ((p0 + bT A V len1 len2 t + 7) / 8)) (nI (p0 + bT A V len1 len2 t)) = some (fo', nI ((p0 + bT A V len1 len2 k + len1 256 + 7) / 8), nI (p0 + bT A V len1 len2 k + len1 256)) ∧ g_Mo_writeTokens_L1 N (nI k) 320 ln 9000 4096 A 4096 V M' (nI t) go (nI ((p0 + bT A V len1 len2 t + 7) / 8)) (nI (p0 + bT A V len1 len2 t)) = some (go', nI ((p0 + bT A V len1 len2 k + len1 256 + 7) / 8), nI (p0 + bT A V len1 len2 k + len1 256)) := by
  intro d
  induction d with
  | zero =>
    intro t fo go M M' ht hM hM' ho
    obtain ⟨k1, rfl⟩ := succ_of hM
    obtain ⟨k2, rfl⟩ := succ_of hM'
    have e : t = k := by omega
    subst e
    obtain ⟨fo1, go1, w', e1, e1'⟩ := sim_code (a := 0) (n := 288) (n0 := 320) (s := 256) c1 w1 m1 (by omega) (by omega) (by omega) (fun s a b => by omega) (by omega) hN ho (by omega)
    refine ⟨fo1, go1, w', ?_, ?_⟩
    · have e1x : g_WriteCodes_write_0 N 288 ts 288 fs_ 9000 256 fo _ _ = _ := e1
      rw [g_Found_write_L1, if_pos (nI_le (by omega) (by omega)), e1x, Option.bind_some]
    · have e1x : g_Mo_writeCode_0 N 320 ln 9000 0 288 256 go _ _ = _ := e1'
      rw [g_Mo_writeTokens_L1, if_pos (nI_le (by omega) (by omega)), e1x, Option.bind_some]
  | succ d ih =>
    intro t fo go M M' ht hM hM' ho
    obtain ⟨k1, rfl⟩ := succ_of hM
    obtain ⟨k2, rfl⟩ := succ_of hM'
    have mono := bT_mono A V len1 len2 d (t + 1)
    rw [show t + 1 + d = k by omega] at mono
    have eb : bT A V len1 len2 (t + 1) = bT A V len1 len2 t + tw A V len1 len2 t := rfl
    rcases tok_in h (show t < k by omega) with ⟨v, hv, a0, v0, i0, s0, d0, az⟩ | ⟨l, v, l1, l2, v1, v2, a0, v0, i0, s0, d0, an⟩
    · have et : tw A V len1 len2 t = len1 v := by unfold tw; rw [if_pos az, s0]
      rw [et] at eb
      obtain ⟨fo1, go1, w', e1, e1'⟩ := sim_code (a := 0) (n := 288) (n0 := 320) (s := v) c1 w1 m1 (by omega) (by omega) (by omega) (fun s a b => by omega) (by omega) hN ho (by omega)
      rw [show p0 + bT A V len1 len2 t + len1 v = p0 + bT A V len1 len2 (t + 1) by omega] at w' e1 e1'
      obtain ⟨fo', go', w2', r1, r2⟩ := ih (t + 1) fo1 go1 k1 k2 (by omega) (by omega) (by omega) w'
      refine ⟨fo', go', w2', ?_, ?_⟩
      · rw [g_Found_write_L1, if_neg (nI_ge (by omega) (by omega)), if_neg (nI_in (by omega) (by omega)), nI_clamp (n := t) (by omega), i0, if_neg (show ¬ (256 : Int32) ≤ nI v from nI_ge (b := 256) hv (by omega)), e1, Option.bind_some, nI_1]
        exact r1
      · have e1x : g_Mo_writeCode_0 N 320 ln 9000 0 288 (nI v) go _ _ = _ := e1'
        rw [g_Mo_writeTokens_L1, if_neg (nI_ge (by omega) (by omega)), if_neg (nI_in (by omega) (by omega)), nI_clamp (n := t) (by omega), if_pos az, if_neg (nI_in2 (by omega) (by omega)), v0, e1x, Option.bind_some, nI_1]
        exact r2
    · have et : tw A V len1 len2 t = len1 (lS l) + eS (lS l) + (len2 (dS v) + eD (dS v)) := by unfold tw; rw [if_neg an, s0, d0]
      rw [et] at eb
      obtain ⟨ls1, ls2⟩ := lS_in l1 l2
      obtain ⟨ds1, _, _⟩ := dS_in v1 v2
      obtain ⟨g1, g2, _, _, _⟩ := eSl ls1 ls2
      obtain ⟨_, h2, _, h4, _, _⟩ := eD_ok (dS v) (by omega)
      obtain ⟨fo1, go1, fo2, go2, fo3, go3, fo4, go4, q1, q2, q3, hq1, hq2, hq3, w4, e0, e1, e2, e3, e4⟩ := sim_match1 hN l1 l2 v1 v2 c1 w1 c2 w2 m1 m2 z2 ho (by omega)
      rw [show q3 + eD (dS v) = p0 + bT A V len1 len2 (t + 1) by omega] at w4 e0 e4
      obtain ⟨fo', go', w2', r1, r2⟩ := ih (t + 1) fo4 go4 k1 k2 (by omega) (by omega) (by omega) w4
      refine ⟨fo', go', w2', ?_, ?_⟩
      · rw [g_Found_write_L1, if_neg (nI_ge (by omega) (by omega)), if_neg (nI_in (by omega) (by omega)), nI_clamp (n := t) (by omega), i0, if_pos (show (256 : Int32) ≤ nI (l * 65536 + v) from nI_le (a := 256) (by omega) (by omega)), e0, Option.bind_some, nI_1]
        exact r1
      · rw [g_Mo_writeTokens_L1, if_neg (nI_ge (by omega) (by omega)), if_neg (nI_in (by omega) (by omega)), nI_clamp (n := t) (by omega), if_neg an, a0, sL_ref l1 l2 hN, Option.bind_some, if_neg (nI_in2 (by omega) (by omega)), v0, sD_ref v1 v2 hN, Option.bind_some, e1, Option.bind_some, g2, Option.bind_some, g1, Option.bind_some]
        dsimp only
        rw [e2, Option.bind_some]
        dsimp only
        rw [e3, Option.bind_some, h4, Option.bind_some, h2, Option.bind_some]
        dsimp only
        rw [e4, Option.bind_some, nI_1]
        exact r2
theorem sim_tokw {it A V ln fs_ ts fd tds fo go : Nat → Int32} {len1 len2 : Nat → Nat} {k N p : Nat} (hN : 100000 ≤ N) (hk : k ≤ 4096) (h : tk k it A V) (c1 : mt fs_ 0 288 len1) (w1 : wk len1 ts) (c2 : mt fd 0 288 len2) (w2 : wk len2 tds) (m1 : mt ln 0 288 len1) (m2 : mt ln 288 32 len2) (z2 : ∀ s, 32 ≤ s → s < 288 → len2 s = 0) (ho : wr fo go p) {p' : Nat} (hp' : p' = p + (len1 256 + bT A V len1 len2 k)) (hp : p' ≤ 72000) : ∃ fo' go', wr fo' go' p' ∧ g_Found_write_0 N (nI k) 288 ts 288 fs_ 9000 4096 it 288 tds 288 fd fo (nI ((p + 7) / 8)) (nI p) = some (fo', nI ((p' + 7) / 8), nI p') ∧ g_Mo_writeTokens_0 N (nI k) 320 ln 9000 4096 A 4096 V go (nI ((p + 7) / 8)) (nI p) = some (go', nI ((p' + 7) / 8), nI p') := by
  obtain ⟨fo', go', w, e1, e2⟩ := sim_write (p0 := p) hN hk h c1 w1 c2 w2 m1 m2 z2 (by omega) k 0 fo go N N (by omega) (by omega) (by omega) ho
  rw [show p + bT A V len1 len2 k + len1 256 = p' by omega] at w e1 e2
  exact ⟨fo', go', w, e1, e2⟩
