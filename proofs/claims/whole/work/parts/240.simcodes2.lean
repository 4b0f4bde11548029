theorem rl_J2_off {g sm ln rw_ : Nat → Int32} {n N : Nat} {a p x1 x2 : Int32} (ha : ¬ a = 0) (hN : 100000 ≤ N) : ∃ sm', g_Mo_readLengths_J2 N (nI n) 8192 g 19 320 320 x1 x2 a p sm ln rw_ = some (a, p, sm', ln, rw_) := by
  obtain ⟨sm', e⟩ := rl_L1_off (g := g) (n := n) (ln := ln) (rw_ := rw_) (x1 := x1) (x2 := x2) (x3 := 0) (p := p) ha hN 19 0 sm N (by omega) (by omega)
  refine ⟨sm', ?_⟩
  rw [g_Mo_readLengths_J2, z_4, number_off ha hN (by decide), Option.bind_some]
  exact e
theorem rl_head_off {g sm ln rw_ : Nat → Int32} {n N : Nat} {a p v1 v2 : Int32} (ha : ¬ a = 0) (hN : 100000 ≤ N) : ∃ sm', (if (29 : Int32) < v1 then g_Mo_readLengths_J1 N (nI n) 8192 g 19 320 320 v1 v2 a p sm ln rw_ else (if v2 ≤ (29 : Int32) then g_Mo_readLengths_J2 N (nI n) 8192 g 19 320 320 v1 v2 a p sm ln rw_ else g_Mo_readLengths_J1 N (nI n) 8192 g 19 320 320 v1 v2 a p sm ln rw_)) = some (a, p, sm', ln, rw_) := by
  obtain ⟨sm', e⟩ := rl_J2_off (g := g) (sm := sm) (ln := ln) (rw_ := rw_) (n := n) (N := N) (p := p) (x1 := v1) (x2 := v2) ha hN
  have e1 : g_Mo_readLengths_J1 N (nI n) 8192 g 19 320 320 v1 v2 a p sm ln rw_ = some (a, p, sm', ln, rw_) := by
    rw [g_Mo_readLengths_J1, blame_off ha, Option.bind_some]; exact e
  refine ⟨sm', ?_⟩
  by_cases c1 : (29 : Int32) < v1
  · rw [if_pos c1]; exact e1
  · rw [if_neg c1]
    by_cases c2 : v2 ≤ (29 : Int32)
    · rw [if_pos c2]; exact e
    · rw [if_neg c2]; exact e1
theorem sl_mt {fl sm : Nat → Int32} (hs : sl fl sm 19) : mt sm 0 19 (fun s => (sm s).toNatClampNeg) ∧ mt fl 0 19 (fun s => (sm s).toNatClampNeg) := by
  have key : ∀ s, s < 19 → ∃ v : Nat, v ≤ 7 ∧ fl s = nI v ∧ sm s = nI v := by
    intro s h
    obtain ⟨j, hj, rfl⟩ := ord_sur s h
    exact hs.1 j hj
  refine ⟨fun s h => ?_, fun s h => ?_⟩
  · obtain ⟨v, h1, h2, h3⟩ := key s h
    show sm (0 + s) = nI (sm s).toNatClampNeg ∧ (sm s).toNatClampNeg ≤ 15
    rw [Nat.zero_add, h3, nI_clamp (by omega)]
    exact ⟨rfl, by omega⟩
  · obtain ⟨v, h1, h2, h3⟩ := key s h
    show fl (0 + s) = nI (sm s).toNatClampNeg ∧ (sm s).toNatClampNeg ≤ 15
    rw [Nat.zero_add, h2, h3, nI_clamp (by omega)]
    exact ⟨rfl, by omega⟩
set_option maxRecDepth 100000 in
/-- behind h and d, both being right -/
theorem sim_codesB {f g fl lc ls m1 s1 m2 s2 sm ln rw_ : Nat → Int32} {n N p h d : Nat} {lk ll k1 t1 k2 t2 : Int32} (hb : rb f g n) (hn : n ≤ 8192) (hN : 100000 ≤ N) (hp : p ≤ 8 * n) (hh : h ≤ 29) (hd : d ≤ 29) :
    ∃ (e p' : Nat) (fl' lc' ls' c1 y1 c2 y2 sm' ln' rw' : Nat → Int32) (lk' ll' k1' t1' k2' t2' : Int32), e < 13 ∧ p' ≤ 8 * n ∧
      (Option.bind (g_Unpacker_readLengthCodes_0 N (nI n) 9000 f 316 16 288 (nI p) fl lc lk ll ls) (fun r7 => (if r7.1 = 0 then (Option.bind (g_Unpacker_readLengths_0 N r7.2.2.2.2.1 r7.2.2.2.2.2.1 (nI n) 9000 f 16 r7.2.2.2.1 288 r7.2.2.2.2.2.2 316 (nI (h + 257) + nI (d + 1)) r7.2.1 r7.2.2.1) (fun r9 => (g_Unpacker_readCodes_J1 N 316 16 288 16 288 (nI (h + 257)) (nI (d + 1)) r9.1 r9.2.1 r9.2.2 r7.2.2.2.1 r7.2.2.2.2.1 r7.2.2.2.2.2.1 r7.2.2.2.2.2.2 m1 k1 t1 s1 m2 k2 t2 s2))) else (g_Unpacker_readCodes_J1 N 316 16 288 16 288 (nI (h + 257)) (nI (d + 1)) r7.1 r7.2.1 r7.2.2.1 r7.2.2.2.1 r7.2.2.2.2.1 r7.2.2.2.2.2.1 r7.2.2.2.2.2.2 m1 k1 t1 s1 m2 k2 t2 s2)))) = some (nI e, nI p', fl', lc', lk', ll', ls', c1, k1', t1', y1, c2, k2', t2', y2) ∧
      g_Mo_readLengths_J2 N (nI n) 8192 g 19 320 320 (nI h) (nI d) 0 (nI p) sm ln rw_ = some (nI e, nI p', sm', ln', rw') ∧
      (e = 0 → p ≤ p' ∧ ∃ (len1 len2 : Nat → Nat) (l1 l2 : Nat), mt ln' 0 288 len1 ∧ mt ln' 288 32 len2 ∧ okc len1 288 ∧ okc len2 32 ∧ rc len1 288 l1 c1 y1 k1' t1' ∧ rc len2 32 l2 c2 y2 k2' t2') := by
  have hfault : ∀ (a : Int32) (q : Int32) (fl' lc' ls' : Nat → Int32) (lk' ll' : Int32), ¬ a = 0 → g_Unpacker_readCodes_J1 N 316 16 288 16 288 (nI (h + 257)) (nI (d + 1)) a q fl' lc' lk' ll' ls' m1 k1 t1 s1 m2 k2 t2 s2 = some (a, q, fl', lc', lk', ll', ls', m1, k1, t1, s1, m2, k2, t2, s2) := by
    intro a q fl' lc' ls' lk' ll' ha
    rw [g_Unpacker_readCodes_J1, if_neg ha]
  by_cases c1 : p + 4 ≤ 8 * n
  · have hc := numOf_lt g p 4
    obtain ⟨fl0, eF, hF⟩ := fill2_ok (n0 := 316) (v := 0) (f := fl) (N := N) (by omega) hN
    have e1 := nextNumber_in (N := N) hb (show n ≤ 9000 by omega) hN (show 4 ≤ 16 by decide) c1
    have e2 := number_in (N := N) hb hn hN (show 4 ≤ 16 by decide) c1
    generalize numOf g p 4 = c at hc e1 e2
    have eC : g_Unpacker_readLengthCodes_0 N (nI n) 9000 f 316 16 288 (nI p) fl lc lk ll ls = g_Unpacker_readLengthCodes_L1 N (nI n) 9000 f 316 16 288 N (nI c) (nI 0) (nI (p + 4)) fl0 lc lk ll ls := by
      rw [g_Unpacker_readLengthCodes_0, z_4, e1, Option.bind_some]
      dsimp only
      rw [if_pos (nI_pos' (by omega)), eF, Option.bind_some]
      rfl
    have eM : g_Mo_readLengths_J2 N (nI n) 8192 g 19 320 320 (nI h) (nI d) 0 (nI p) sm ln rw_ = g_Mo_readLengths_L1 N (nI n) 8192 g 19 320 320 N (nI h) (nI d) (nI c) (nI 0) 0 (nI (p + 4)) sm ln rw_ := by
      rw [g_Mo_readLengths_J2, z_4, e2, Option.bind_some]
      rfl
    rw [eC, eM]
    have hs0 : sl fl0 sm 0 := ⟨fun j hj => absurd hj (Nat.not_lt_zero j), fun j _ hj => hF _ (by have := (ord_lt j hj).1; omega)⟩
    rcases small_loop (ln := ln) (rw_ := rw_) (x1 := nI h) (x2 := nI d) (lc := lc) (ls := ls) (lk := lk) (ll := ll) hb hn hN (show c ≤ 15 by omega) (c + 4) 0 (p + 4) fl0 sm N N (by omega) (by omega) (by omega) c1 hs0 with ⟨p1, fl1, sm1, M2, hM2, hp1, hs1, q1, q2⟩ | ⟨fl1, sm1, q1, q2⟩
    · obtain ⟨m1s, m1f⟩ := sl_mt hs1
      generalize (fun s => (sm1 s).toNatClampNeg) = len at m1s m1f
      obtain ⟨l, ct, sy, eK, R⟩ := make_ok (ct := lc) (sy := ls) (cd := lk) (lg := ll) m1f (show 0 + 19 ≤ 316 by omega) (by omega) (by omega) hN
      have eK' : g_ReadCodes_make_0 N 16 316 fl1 288 0 19 lc lk ll ls = some (ct, nI (bf len 19 15), nI l, sy) := eK
      have hl : ∀ s, s < 19 → len s ≤ 15 := fun s hs => (m1s s hs).2
      have F := fit_ok (N := N) hl (by omega) hN R
      have A := areCodes_ok (N := N) (z := 0) m1s (show 0 + 19 ≤ 19 by omega) (by omega) hN
      have A' : g_Mo_areCodes_0 N 19 sm1 0 19 0 = some (if lw len 0 19 = 32768 ∨ (cg len 1 19 = 1 ∧ lw len 0 19 = 16384) ∨ (cg len 1 19 = 0 ∧ ¬ (0 : Int32) = 0) then 1 else 0) := A
      obtain ⟨M3, rfl⟩ := succ_of hM2
      by_cases q : lw len 0 19 = 32768 ∨ (cg len 1 19 = 1 ∧ lw len 0 19 = 16384)
      · rw [if_pos q] at F
        rw [if_pos (q.elim Or.inl (fun z => Or.inr (Or.inl z)))] at A'
        have hv : okc len 19 := q.elim Or.inl (fun z => Or.inr (Or.inl z))
        have eC2 : g_Unpacker_readLengthCodes_J1 N 316 16 288 (nI p1) fl1 lc lk ll ls = some (0, nI p1, fl1, ct, nI (bf len 19 15), nI l, sy) := by
          rw [g_Unpacker_readLengthCodes_J1, eK', Option.bind_some]
          dsimp only
          rw [F, Option.bind_some, if_neg (by decide)]
        have eM2 : g_Mo_readLengths_L1 N (nI n) 8192 g 19 320 320 (M3 + 1) (nI h) (nI d) (nI c) (nI 19) 0 (nI p1) sm1 ln rw_ = g_Mo_readLengths_L2 N (nI n) 8192 g 19 320 320 N (nI h) (nI d) (nI (h + 257 + (d + 1))) (nI 0) 0 (nI p1) sm1 ln rw_ := by
          rw [g_Mo_readLengths_L1, if_pos (show (19 : Int32) ≤ nI 19 by decide), if_pos rfl, A', Option.bind_some, if_neg (by decide), g_Mo_readLengths_J4, nI_add, z_258, nI_add, show h + d + 258 = h + 257 + (d + 1) by omega]
          rfl
        rw [q1, eC2, Option.bind_some, q2, eM2]
        dsimp only
        rw [if_pos rfl, nI_add]
        rcases len_loop (ln := ln) (x1 := nI h) (x2 := nI d) (due := h + 257 + (d + 1)) hb hn hN m1s hv R (by omega) (h + 257 + (d + 1)) 0 0 p1 fl1 rw_ N N (by omega) (by omega) (by omega) (by omega) (by omega) hp1.2 (fun j hj => absurd hj (Nat.not_lt_zero j)) with ⟨p2, fl2, rw2, hp2, hr2, w1, w2⟩ | ⟨e, p2, fl2, rw2, he0, he1, hp2, w1, w2⟩
        · have w1' : g_Unpacker_readLengths_0 N (nI (bf len 19 15)) (nI l) (nI n) 9000 f 16 ct 288 sy 316 (nI (h + 257 + (d + 1))) (nI p1) fl1 = some (0, nI p2, fl2) := w1
          rw [w1', Option.bind_some, w2]
          obtain ⟨e, c1', y1, c2', y2, ln', k1', t1', k2', t2', he, u1, u2, u3⟩ := sim_end (lc := ct) (ls := sy) (m1 := m1) (s1 := s1) (m2 := m2) (s2 := s2) (sm := sm1) (ln := ln) (lk := nI (bf len 19 15)) (ll := nI l) (k1 := k1) (t1 := t1) (k2 := k2) (t2 := t2) (p := nI p2) hN hh hd hr2
          exact ⟨e, p2, fl2, ct, sy, c1', y1, c2', y2, sm1, ln', rw2, _, _, k1', t1', k2', t2', he, hp2.2, u1, u2, fun z => ⟨by omega, u3 z⟩⟩
        · have w1' : g_Unpacker_readLengths_0 N (nI (bf len 19 15)) (nI l) (nI n) 9000 f 16 ct 288 sy 316 (nI (h + 257 + (d + 1))) (nI p1) fl1 = some (nI e, nI p2, fl2) := w1
          rw [w1', Option.bind_some, w2]
          refine ⟨e, p2, fl2, ct, sy, m1, s1, m2, s2, sm1, ln, rw2, _, _, k1, t1, k2, t2, he1, hp2, hfault _ _ _ _ _ _ _ (nI_ne0 he0 (by omega)), rfl, fun z => by omega⟩
      · rw [if_neg q] at F
        rw [if_neg (by
          rintro (z | z | z)
          · exact q (Or.inl z)
          · exact q (Or.inr z)
          · exact z.2 rfl)] at A'
        have eC2 : g_Unpacker_readLengthCodes_J1 N 316 16 288 (nI p1) fl1 lc lk ll ls = some (7, nI p1, fl1, ct, nI (bf len 19 15), nI l, sy) := by
          rw [g_Unpacker_readLengthCodes_J1, eK', Option.bind_some]
          dsimp only
          rw [F, Option.bind_some, if_pos rfl]
        have eM2 : g_Mo_readLengths_L1 N (nI n) 8192 g 19 320 320 (M3 + 1) (nI h) (nI d) (nI c) (nI 19) 0 (nI p1) sm1 ln rw_ = some (7, nI p1, sm1, ln, rw_) := by
          rw [g_Mo_readLengths_L1, if_pos (show (19 : Int32) ≤ nI 19 by decide), if_pos rfl, A', Option.bind_some, if_pos rfl]
          show g_Mo_readLengths_J4 N (nI n) 8192 g 19 320 320 (nI h) (nI d) 7 (nI p1) sm1 ln rw_ = _
          rw [g_Mo_readLengths_J4]
          exact rl_L2_off (by decide) (by omega) (by omega)
        rw [q1, eC2, Option.bind_some, q2, eM2]
        dsimp only
        rw [if_neg (show ¬ (7 : Int32) = 0 by decide), hfault 7 _ _ _ _ _ _ (by decide)]
        exact ⟨7, p1, fl1, ct, sy, m1, s1, m2, s2, sm1, ln, rw_, _, _, k1, t1, k2, t2, by decide, hp1.2, rfl, rfl, fun z => by omega⟩
    · rw [q1, Option.bind_some, q2]
      dsimp only
      rw [if_neg (show ¬ (2 : Int32) = 0 by decide), hfault 2 _ _ _ _ _ _ (by decide)]
      exact ⟨2, 8 * n, fl1, lc, ls, m1, s1, m2, s2, sm1, ln, rw_, _, _, k1, t1, k2, t2, by decide, Nat.le_refl _, rfl, rfl, fun z => by omega⟩
  · have e1 := nextNumber_out (f := f) (N := N) (show n ≤ 9000 by omega) (show 4 ≤ 16 by decide) hp (by omega)
    have e2 := number_short (N := N) hb hn hN (show 4 ≤ 16 by decide) hp (by omega)
    obtain ⟨sm', e3⟩ := rl_L1_off (g := g) (n := n) (ln := ln) (rw_ := rw_) (x1 := nI h) (x2 := nI d) (x3 := nI (numOf g p (8 * n - p))) (p := nI (8 * n)) (show ¬ (2 : Int32) = 0 by decide) hN 19 0 sm N (by omega) (by omega)
    refine ⟨2, 8 * n, fl, lc, ls, m1, s1, m2, s2, sm', ln, rw_, lk, ll, k1, t1, k2, t2, by decide, Nat.le_refl _, ?_, ?_, fun z => by omega⟩
    · rw [g_Unpacker_readLengthCodes_0, z_4, e1, Option.bind_some]
      exact hfault 2 _ _ _ _ _ _ (by decide)
    · rw [g_Mo_readLengths_J2, z_4, e2, Option.bind_some]
      exact e3
