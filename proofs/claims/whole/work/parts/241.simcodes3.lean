set_option maxRecDepth 100000 in
theorem sim_codes {f g fl lc ls m1 s1 m2 s2 sm ln rw_ : Nat → Int32} {n N p : Nat} {lk ll k1 t1 k2 t2 : Int32} (hb : rb f g n) (hn : n ≤ 8192) (hN : 100000 ≤ N) (hp : p ≤ 8 * n) :
    ∃ (e p' : Nat) (fl' lc' ls' c1 y1 c2 y2 sm' ln' rw' : Nat → Int32) (lk' ll' k1' t1' k2' t2' : Int32), e < 13 ∧ p' ≤ 8 * n ∧
      g_Unpacker_readCodes_0 N (nI n) 9000 f 316 16 288 16 288 16 288 (nI p) fl lc lk ll ls m1 k1 t1 s1 m2 k2 t2 s2 = some (nI e, nI p', fl', lc', lk', ll', ls', c1, k1', t1', y1, c2, k2', t2', y2) ∧
      g_Mo_readLengths_0 N (nI n) 8192 g 19 320 320 0 (nI p) sm ln rw_ = some (nI e, nI p', sm', ln', rw') ∧
      (e = 0 → p ≤ p' ∧ ∃ (len1 len2 : Nat → Nat) (l1 l2 : Nat), mt ln' 0 288 len1 ∧ mt ln' 288 32 len2 ∧ okc len1 288 ∧ okc len2 32 ∧ rc len1 288 l1 c1 y1 k1' t1' ∧ rc len2 32 l2 c2 y2 k2' t2') := by
  rw [g_Unpacker_readCodes_0, g_Mo_readLengths_0, z_5]
  by_cases c1 : p + 5 ≤ 8 * n
  · rw [nextNumber_in (N := N) hb (show n ≤ 9000 by omega) hN (show 5 ≤ 16 by decide) c1, number_in (N := N) hb hn hN (show 5 ≤ 16 by decide) c1, Option.bind_some, Option.bind_some]
    dsimp only
    have hh := numOf_lt g p 5
    generalize numOf g p 5 = h at hh
    by_cases c2 : p + 5 + 5 ≤ 8 * n
    · rw [nextNumber_in (N := N) hb (show n ≤ 9000 by omega) hN (show 5 ≤ 16 by decide) c2, number_in (N := N) hb hn hN (show 5 ≤ 16 by decide) c2, Option.bind_some, Option.bind_some]
      dsimp only
      have hd := numOf_lt g (p + 5) 5
      generalize numOf g (p + 5) 5 = d at hd
      rw [if_neg (nI_pos (by omega)), if_pos (nI_pos' (by omega)), z_257, nI_add, nI_1, z_286, z_30, z_29]
      by_cases c3 : h ≤ 29
      · rw [if_neg (nI_nlt (by omega) (by omega)), if_neg (nI_nlt (by omega) (by omega))]
        by_cases c4 : d ≤ 29
        · rw [if_pos (nI_le (by omega) (by omega)), if_pos (nI_le (by omega) (by omega))]
          obtain ⟨e, p', a1, a2, a3, a4, a5, a6, a7, a8, a9, a10, b1, b2, b3, b4, b5, b6, w1, w2, w3, w4, w5⟩ := sim_codesB (fl := fl) (lc := lc) (ls := ls) (m1 := m1) (s1 := s1) (m2 := m2) (s2 := s2) (sm := sm) (ln := ln) (rw_ := rw_) (lk := lk) (ll := ll) (k1 := k1) (t1 := t1) (k2 := k2) (t2 := t2) hb hn hN c2 c3 c4
          exact ⟨e, p', a1, a2, a3, a4, a5, a6, a7, a8, a9, a10, b1, b2, b3, b4, b5, b6, w1, w2, w3, w4, fun z => ⟨by have := (w5 z).1; omega, (w5 z).2⟩⟩
        · rw [if_neg (nI_ge (by omega) (by omega)), if_neg (nI_ge (by omega) (by omega))]
          obtain ⟨sm', e⟩ := rl_J2_off (g := g) (sm := sm) (ln := ln) (rw_ := rw_) (n := n) (N := N) (p := nI (p + 5 + 5)) (x1 := nI h) (x2 := nI d) (show ¬ (5 : Int32) = 0 by decide) hN
          refine ⟨5, p + 5 + 5, fl, lc, ls, m1, s1, m2, s2, sm', ln, rw_, lk, ll, k1, t1, k2, t2, by decide, c2, rfl, ?_, fun z => by omega⟩
          rw [g_Mo_readLengths_J1]
          exact e
      · rw [if_pos (nI_lt (by omega) (by omega)), if_pos (nI_lt (by omega) (by omega))]
        obtain ⟨sm', e⟩ := rl_J2_off (g := g) (sm := sm) (ln := ln) (rw_ := rw_) (n := n) (N := N) (p := nI (p + 5 + 5)) (x1 := nI h) (x2 := nI d) (show ¬ (5 : Int32) = 0 by decide) hN
        refine ⟨5, p + 5 + 5, fl, lc, ls, m1, s1, m2, s2, sm', ln, rw_, lk, ll, k1, t1, k2, t2, by decide, c2, rfl, ?_, fun z => by omega⟩
        rw [g_Mo_readLengths_J1]
        exact e
    · rw [nextNumber_out (f := f) (N := N) (show n ≤ 9000 by omega) (show 5 ≤ 16 by decide) c1 (by omega), number_short (N := N) hb hn hN (show 5 ≤ 16 by decide) c1 (by omega), Option.bind_some, Option.bind_some]
      dsimp only
      rw [if_neg (nI_pos (by omega)), if_neg (show ¬ (0 : Int32) ≤ -2 by decide)]
      obtain ⟨sm', e⟩ := rl_head_off (g := g) (sm := sm) (ln := ln) (rw_ := rw_) (n := n) (N := N) (p := nI (8 * n)) (v1 := nI h) (v2 := nI (numOf g (p + 5) (8 * n - (p + 5)))) (show ¬ (2 : Int32) = 0 by decide) hN
      exact ⟨2, 8 * n, fl, lc, ls, m1, s1, m2, s2, sm', ln, rw_, lk, ll, k1, t1, k2, t2, by decide, Nat.le_refl _, rfl, e, fun z => by omega⟩
  · rw [nextNumber_out (f := f) (N := N) (show n ≤ 9000 by omega) (show 5 ≤ 16 by decide) hp (by omega), number_short (N := N) hb hn hN (show 5 ≤ 16 by decide) hp (by omega), Option.bind_some, Option.bind_some]
    dsimp only
    rw [nextNumber_out (f := f) (N := N) (show n ≤ 9000 by omega) (show 5 ≤ 16 by decide) (Nat.le_refl _) (by omega), number_off (by decide) hN (by decide), Option.bind_some, Option.bind_some]
    dsimp only
    rw [if_pos (show (-2 : Int32) < 0 by decide)]
    obtain ⟨sm', e⟩ := rl_head_off (g := g) (sm := sm) (ln := ln) (rw_ := rw_) (n := n) (N := N) (p := nI (8 * n)) (v1 := nI (numOf g p (8 * n - p))) (v2 := 0) (show ¬ (2 : Int32) = 0 by decide) hN
    exact ⟨2, 8 * n, fl, lc, ls, m1, s1, m2, s2, sm', ln, rw_, lk, ll, k1, t1, k2, t2, by decide, Nat.le_refl _, rfl, e, fun z => by omega⟩
