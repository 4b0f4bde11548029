def eS (s : Nat) : Nat := if s < 265 ∨ 285 ≤ s then 0 else (s - 261) / 4
def bS (s : Nat) : Nat := if 285 ≤ s then 258 else if s < 265 then s - 254 else 3 + (4 + (s - 261) % 4) * 2 ^ ((s - 261) / 4)
def eD (d : Nat) : Nat := if d < 4 then 0 else d / 2 - 1
def bD (d : Nat) : Nat := if d < 4 then d + 1 else 1 + (2 + d % 2) * 2 ^ (d / 2 - 1)
theorem eS_ok : ∀ j, j < 29 → g_Bp_extraOfSymbol_0 (nI (257 + j)) = some (nI (eS (257 + j))) ∧ g_Mo_lengthBits_0 (nI (257 + j)) = some (nI (eS (257 + j))) ∧ g_Bp_baseOfSymbol_0 (nI (257 + j)) = some (nI (bS (257 + j))) ∧ g_Mo_lengthBase_0 (nI (257 + j)) = some (nI (bS (257 + j))) ∧ eS (257 + j) ≤ 5 ∧ 3 ≤ bS (257 + j) ∧ bS (257 + j) ≤ 258 := by decide +kernel
theorem eD_ok : ∀ d, d < 30 → g_Bp_extraOfDistance_0 (nI d) = some (nI (eD d)) ∧ g_Mo_distanceBits_0 (nI d) = some (nI (eD d)) ∧ g_Bp_baseOfDistance_0 (nI d) = some (nI (bD d)) ∧ g_Mo_distanceBase_0 (nI d) = some (nI (bD d)) ∧ eD d ≤ 13 ∧ 1 ≤ bD d ∧ bD d ≤ 24577 := by decide +kernel
theorem match_off {go : Nat → Int32} {M : Nat} {a p x2 x4 x5 m : Int32} (ha : ¬ a = 0) (hM : 0 < M) : g_Mo_readMatch_L1 9000 M x2 x4 x5 a p go m = some (a, p, go, m) := by
  obtain ⟨k, rfl⟩ := succ_of hM
  rw [g_Mo_readMatch_L1, if_neg ha]
  by_cases q : x2 ≤ x5
  · rw [if_pos q]
  · rw [if_neg q]
theorem repeat_loop {L D : Nat} {p : Int32} (hL : L ≤ 1000) (hD : 1 ≤ D) : ∀ (d j m : Nat) (fo go : Nat → Int32) (M M' : Nat), j + d = L → d < M → d + 1 < M' → D ≤ m → m ≤ 8192 → rb fo go m →
    ∃ (a m' : Nat) (fo' go' : Nat → Int32), a < 13 ∧ m' ≤ 8192 ∧ rb fo' go' m' ∧ g_Unpacker_repeat_L1 9000 M (nI L) (nI D) (nI j) fo (nI m) = some (nI a, fo', nI m') ∧ g_Mo_readMatch_L1 9000 M' (nI L) (nI D) (nI j) 0 p go (nI m) = some (nI a, p, go', nI m') := by
  intro d
  induction d with
  | zero =>
    intro j m fo go M M' hj hM hM' hDm hm ho
    obtain ⟨k, rfl⟩ := succ_of hM
    obtain ⟨k', rfl⟩ := succ_of hM'
    refine ⟨0, m, fo, go, by decide, hm, ho, ?_, ?_⟩
    · rw [g_Unpacker_repeat_L1, if_pos (nI_le (by omega) (by omega))]; rfl
    · rw [g_Mo_readMatch_L1, if_pos (nI_le (by omega) (by omega))]; rfl
  | succ d ih =>
    intro j m fo go M M' hj hM hM' hDm hm ho
    obtain ⟨k, rfl⟩ := succ_of hM
    obtain ⟨k', rfl⟩ := succ_of hM'
    obtain ⟨b, hb, e1, e2⟩ := ho (m - D) (by omega)
    have b1 : ¬ nI L ≤ nI j := nI_ge (by omega) (by omega)
    have eC : g_Row_byteAt_0 (nI m) 9000 fo (nI m - nI D) = some (nI b) := by
      rw [pk_sub hDm, Row_byteAt_in ho (by omega) (by omega), e1]
    have eR : (if nI m - nI D < 0 ∨ 9000 ≤ (nI m - nI D).toNatClampNeg then none else (Option.bind (g_Mo_make_0 9000 (go (nI m - nI D).toNatClampNeg) 0 go (nI m)) (fun r20 => (g_Mo_readMatch_L1 9000 k' (nI L) (nI D) (nI j + 1) r20.1 p r20.2.1 r20.2.2)))) = (Option.bind (g_Mo_make_0 9000 (nI b) 0 go (nI m)) (fun r20 => (g_Mo_readMatch_L1 9000 k' (nI L) (nI D) (nI j + 1) r20.1 p r20.2.1 r20.2.2))) := by
      rw [pk_sub hDm, if_neg (by rw [z_0, nI_ltI (by omega) (by omega), nI_clamp (by omega)]; omega), nI_clamp (by omega), e1]
    by_cases c2 : m < 8192
    · obtain ⟨a, m', fo', go', q1, q2, q3, q4, q5⟩ := ih (j + 1) (m + 1) (upd fo m (sb_b b)) (upd go m (nI b)) k k' (by omega) (by omega) (by omega) (by omega) (by omega) (rb_add ho hb rfl rfl)
      refine ⟨a, m', fo', go', q1, q2, q3, ?_, ?_⟩
      · rw [g_Unpacker_repeat_L1, if_neg b1, eC, Option.bind_some, Row_add_in c2, Option.bind_some]
        dsimp only
        rw [if_neg (show ¬ (1 : Int32) = 0 by decide), nI_1]
        exact q4
      · rw [g_Mo_readMatch_L1, if_neg b1, if_pos rfl, eR, make_in c2, Option.bind_some]
        dsimp only
        rw [nI_1]
        exact q5
    · have e3 : m = 8192 := by omega
      subst e3
      refine ⟨10, 8192, fo, go, by decide, Nat.le_refl _, ho, ?_, ?_⟩
      · rw [g_Unpacker_repeat_L1, if_neg b1, eC, Option.bind_some, Row_add_out]
        rfl
      · rw [g_Mo_readMatch_L1, if_neg b1, if_pos rfl, eR, make_full, Option.bind_some]
        dsimp only
        exact match_off (by decide) (by omega)
theorem rm_J2_off {g go : Nat → Int32} {n N : Nat} {a p x2 x3 m : Int32} (ha : ¬ a = 0) : g_Mo_readMatch_J2 N (nI n) 8192 g 9000 x2 x3 a p go m = some (a, p, go, m) := by
  rw [g_Mo_readMatch_J2, if_neg ha]
theorem rm_J1_off {g go : Nat → Int32} {n N : Nat} {a p x2 y m : Int32} (ha : ¬ a = 0) : g_Mo_readMatch_J1 N (nI n) 8192 g 9000 x2 y a p go m = some (a, p, go, m) := by
  rw [g_Mo_readMatch_J1, if_neg ha]
  exact rm_J2_off ha
set_option maxRecDepth 100000 in
theorem sim_match {f g fo go ln c2 y2 : Nat → Int32} {len2 : Nat → Nat} {n N p m s l2 : Nat} {F k2 t2 ma : Int32} (hb : rb f g n) (hn : n ≤ 8192) (hN : 100000 ≤ N) (hp : p ≤ 8 * n) (hm : m ≤ 8192) (ho : rb fo go m) (hmt : mt ln 288 32 len2) (hv : okc len2 32) (R : rc len2 32 l2 c2 y2 k2 t2) (hs1 : 257 ≤ s) (hs2 : s ≤ 285) (hF : F = (256 : Int32) <<< (((g 0) >>> ((4 : Int32) &&& 31)) &&& 31)) :
    ∃ (e p' m' : Nat) (fo' go' : Nat → Int32), e < 13 ∧ (e = 0 → p ≤ p') ∧ p' ≤ 8 * n ∧ m' ≤ 8192 ∧ rb fo' go' m' ∧
      g_Unpacker_readMatch_0 N F (nI n) 9000 f k2 t2 16 c2 288 y2 9000 (nI s) ma (nI p) fo (nI m) = some (nI e, ma + 1, nI p', fo', nI m') ∧
      g_Mo_readMatch_0 N (nI n) 8192 g 320 ln 9000 (nI s) 0 (nI p) go (nI m) = some (nI e, nI p', go', nI m') := by
  obtain ⟨j, rfl⟩ : ∃ j, s = 257 + j := ⟨s - 257, by omega⟩
  obtain ⟨s1, s2, s3, s4, s5, s6, s7⟩ := eS_ok j (by omega)
  rw [g_Unpacker_readMatch_0, if_pos (show nI (257 + j) ≤ (285 : Int32) from nI_le (b := 285) (by omega) (by omega)), s1, Option.bind_some, s3, g_Mo_readMatch_0, s4, Option.bind_some, s2, Option.bind_some]
  generalize eS (257 + j) = eb at s5
  generalize bS (257 + j) = bs at s6 s7
  by_cases c1 : p + eb ≤ 8 * n
  · have hv1 := numOf_lt g p eb
    have hv1' : numOf g p eb < 32 := Nat.lt_of_lt_of_le hv1 (Nat.pow_le_pow_right (n := 2) (by decide) s5)
    rw [nextNumber_in (N := N) hb (show n ≤ 9000 by omega) hN (by omega) c1, number_in (N := N) hb hn hN (by omega) c1, Option.bind_some, Option.bind_some]
    dsimp only
    rw [if_pos (nI_pos' (by omega)), if_pos rfl]
    generalize numOf g p eb = v1 at hv1'
    obtain ⟨p1, hp1, q⟩ := sim_next hb hn hN hmt (show 288 + 32 ≤ 320 by omega) (by omega) (by omega) hv R c1
    rcases q with ⟨d, hd, hpp, q1, q2⟩ | ⟨e, he, q1, q2⟩
    · have q2' : g_Mo_symbol_0 N (nI n) 320 ln 8192 g 288 32 0 (nI (p + eb)) = some (nI d, 0, nI p1) := q2
      rw [q1, q2', Option.bind_some, Option.bind_some]
      dsimp only
      rw [if_pos (nI_pos' (by omega)), g_Mo_readMatch_J1, if_pos rfl]
      by_cases c2 : d < 30
      · obtain ⟨d1, d2, d3, d4, d5, d6, d7⟩ := eD_ok d c2
        rw [if_pos (show nI d < (30 : Int32) from nI_lt (b := 30) c2 (by omega)), d1, Option.bind_some, if_pos (show nI d ≤ (29 : Int32) from nI_le (b := 29) (by omega) (by omega)), g_Mo_readMatch_J2, if_pos rfl, d4, Option.bind_some, d2, Option.bind_some, d3]
        generalize eD d = ed at d5
        generalize bD d = bd at d6 d7
        by_cases c3 : p1 + ed ≤ 8 * n
        · have hv2 := numOf_lt g p1 ed
          have hv2' : numOf g p1 ed < 8192 := Nat.lt_of_lt_of_le hv2 (Nat.pow_le_pow_right (n := 2) (by decide) d5)
          rw [nextNumber_in (N := N) hb (show n ≤ 9000 by omega) hN (by omega) c3, number_in (N := N) hb hn hN (by omega) c3, Option.bind_some, Option.bind_some]
          dsimp only
          rw [if_pos (nI_pos' (by omega)), Option.bind_some, Option.bind_some, if_pos rfl]
          generalize numOf g p1 ed = v2 at hv2'
          rw [nI_add bs v1, nI_add bd v2]
          rw [g_Unpacker_repeat_0]
          by_cases c4 : m < bd + v2
          · refine ⟨9, p1 + ed, m, fo, go, by decide, fun _ => by omega, c3, hm, ho, ?_, ?_⟩
            · rw [if_pos (nI_lt c4 (by omega))]; rfl
            · rw [if_pos (nI_lt c4 (by omega)), g_Mo_readMatch_J3]
              show g_Mo_readMatch_L1 9000 N _ _ 0 9 _ _ _ = _
              exact match_off (by decide) (by omega)
          · rw [if_neg (nI_nlt (by omega) (by omega)), if_neg (nI_nlt (by omega) (by omega)), if_neg (show ¬ ((0 : Int32) < 0 ∨ 8192 ≤ (0 : Int32).toNatClampNeg) by decide), show (0 : Int32).toNatClampNeg = 0 by decide, ← hF]
            by_cases c5 : nI (bd + v2) ≤ F
            · rw [if_pos c5, if_pos c5]
              obtain ⟨a, m', fo', go', w1, w2, w3, w4, w5⟩ := repeat_loop (L := bs + v1) (D := bd + v2) (p := nI (p1 + ed)) (by omega) (by omega) (bs + v1) 0 m fo go N N (by omega) (by omega) (by omega) (by omega) hm ho
              have w4' : g_Unpacker_repeat_L1 9000 N (nI (bs + v1)) (nI (bd + v2)) 0 fo (nI m) = some (nI a, fo', nI m') := w4
              refine ⟨a, p1 + ed, m', fo', go', w1, fun _ => by omega, c3, w2, w3, ?_, w5⟩
              rw [w4', Option.bind_some]
            · rw [if_neg c5, if_neg c5]
              refine ⟨9, p1 + ed, m, fo, go, by decide, fun _ => by omega, c3, hm, ho, rfl, ?_⟩
              rw [g_Mo_readMatch_J3]
              show g_Mo_readMatch_L1 9000 N _ _ 0 9 _ _ _ = _
              exact match_off (by decide) (by omega)
        · rw [nextNumber_out (f := f) (N := N) (show n ≤ 9000 by omega) (by omega) hp1 (by omega), number_short (N := N) hb hn hN (by omega) hp1 (by omega)]
          simp only [Option.bind_some]
          rw [if_neg (show ¬ (0 : Int32) ≤ -2 by decide), if_neg (show ¬ (2 : Int32) = 0 by decide)]
          exact ⟨2, 8 * n, m, fo, go, by decide, fun _ => by omega, Nat.le_refl _, hm, ho, rfl, match_off (by decide) (by omega)⟩
      · rw [if_neg (show ¬ nI d < (30 : Int32) from nI_nlt (b := 30) (by omega) (by omega)), if_neg (show ¬ nI d ≤ (29 : Int32) from nI_ge (a := 29) (by omega) (by omega))]
        refine ⟨8, p1, m, fo, go, by decide, fun _ => by omega, hp1, hm, ho, rfl, ?_⟩
        show g_Mo_readMatch_J2 N (nI n) 8192 g 9000 _ _ 8 _ _ _ = _
        exact rm_J2_off (by decide)
    · have q2' : g_Mo_symbol_0 N (nI n) 320 ln 8192 g 288 32 0 (nI (p + eb)) = some (-1, nI e, nI p1) := q2
      obtain ⟨z1, z2, z3⟩ := fault_val he
      rw [q1, q2', Option.bind_some, Option.bind_some]
      dsimp only
      rw [if_neg z1, z2]
      exact ⟨e, p1, m, fo, go, by omega, fun z => by omega, hp1, hm, ho, rfl, rm_J1_off z3⟩
  · rw [nextNumber_out (f := f) (N := N) (show n ≤ 9000 by omega) (by omega) hp (by omega), number_short (N := N) hb hn hN (by omega) hp (by omega), Option.bind_some, Option.bind_some]
    dsimp only
    rw [if_neg (show ¬ (0 : Int32) ≤ -2 by decide), if_neg (show ¬ (2 : Int32) = 0 by decide)]
    exact ⟨2, 8 * n, m, fo, go, by decide, fun _ => by omega, Nat.le_refl _, hm, ho, rfl, rm_J1_off (by decide)⟩
