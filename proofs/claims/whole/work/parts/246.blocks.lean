theorem run_stop {f fo fl lc ls c1 y1 c2 y2 cf yf cd yd : Nat → Int32} {N M : Nat} {ni x3 x4 p m vp bl ma la F kf tf kd td lk ll k1 t1 k2 t2 br : Int32} (h : ¬ x3 = 0 ∨ ¬ la = 0) (hM : 0 < M) :
    g_Unpacker_run_L1 N ni 9000 f kf tf kd td 316 16 288 16 288 16 288 16 cf 288 yf 16 cd 288 yd 9000 M x3 x4 p m vp bl ma la F fl lc lk ll ls c1 k1 t1 y1 c2 k2 t2 y2 fo br = g_Unpacker_run_J1 N ni 9000 f 9000 x3 p m vp bl ma la F fl lc lk ll ls c1 k1 t1 y1 c2 k2 t2 y2 fo br := by
  obtain ⟨k, rfl⟩ := succ_of hM
  rw [g_Unpacker_run_L1]
  by_cases q : (65536 : Int32) ≤ x4
  · rw [if_pos q]
  · rw [if_neg q]
    by_cases q2 : x3 = 0
    · rw [if_pos q2, if_neg (h.elim (fun z => absurd q2 z) id)]
    · rw [if_neg q2]
theorem un_stop {g ln go told sm rw_ : Nat → Int32} {n N M : Nat} {a p m x3 : Int32} (h : ¬ a = 0 ∨ ¬ x3 = 0) (hM : 0 < M) :
    g_Mo_unpack_L1 N (nI n) 8 8192 g 9000 320 19 320 M x3 p a m told go ln sm rw_ = g_Mo_unpack_J7 N (nI n) 8192 g 9000 p a m told go ln sm rw_ := by
  obtain ⟨k, rfl⟩ := succ_of hM
  rw [g_Mo_unpack_L1]
  by_cases q : x3 = 0
  · rw [if_pos q, if_neg (h.elim id (fun z => absurd q z))]
  · rw [if_neg q]
set_option maxRecDepth 100000 in
theorem sim_blocks {f g cf yf cd yd : Nat → Int32} {n N lf ld : Nat} {F kf tf kd td vp br : Int32} (hb : rb f g n) (hn : n ≤ 8192) (hN : 100000 ≤ N) (RF : rc fL 288 lf cf yf kf tf) (RD : rc fD 32 ld cd yd kd td) (hF : F = (256 : Int32) <<< (((g 0) >>> ((4 : Int32) &&& 31)) &&& 31)) :
    ∀ (d i p m : Nat) (bl ma : Int32) (fo go told fl lc ls c1 y1 c2 y2 sm ln rw_ : Nat → Int32) (lk ll k1 t1 k2 t2 : Int32) (M M' : Nat), 8 * n ≤ p + d → d + 1 < M → d + 1 < M' → i < p → p ≤ 8 * n → m ≤ 8192 → rb fo go m → told 6 = bl → told 7 = ma →
    ∃ (e p' m' : Nat) (bl' ma' la' : Int32) (fo' go' told' fl' lc' ls' c1' y1' c2' y2' sm' ln' rw' : Nat → Int32) (lk' ll' k1' t1' k2' t2' : Int32),
      (e < 13 ∧ p' ≤ 8 * n ∧ m' ≤ 8192 ∧ rb fo' go' m' ∧ told' 6 = bl' ∧ told' 7 = ma' ∧ (∀ j, j ≠ 6 → j ≠ 7 → told' j = told j)) ∧
      g_Unpacker_run_L1 N (nI n) 9000 f kf tf kd td 316 16 288 16 288 16 288 16 cf 288 yf 16 cd 288 yd 9000 M 0 (nI i) (nI p) (nI m) vp bl ma 0 F fl lc lk ll ls c1 k1 t1 y1 c2 k2 t2 y2 fo br = g_Unpacker_run_J1 N (nI n) 9000 f 9000 (nI e) (nI p') (nI m') vp bl' ma' la' F fl' lc' lk' ll' ls' c1' k1' t1' y1' c2' k2' t2' y2' fo' br ∧
      g_Mo_unpack_L1 N (nI n) 8 8192 g 9000 320 19 320 M' 0 (nI p) 0 (nI m) told go ln sm rw_ = g_Mo_unpack_J7 N (nI n) 8192 g 9000 (nI p') (nI e) (nI m') told' go' ln' sm' rw' := by
  have e6 : (6 : Int32).toNatClampNeg = 6 := by decide
  have n6 : ¬ ((6 : Int32) < 0 ∨ 8 ≤ (6 : Int32).toNatClampNeg) := by decide
  intro d
  induction d with
  | zero =>
    intro i p m bl ma fo go told fl lc ls c1 y1 c2 y2 sm ln rw_ lk ll k1 t1 k2 t2 M M' hd hM hM' hi hp hm ho h6 h7
    obtain ⟨k, rfl⟩ := succ_of (show 0 < M by omega)
    obtain ⟨k', rfl⟩ := succ_of (show 0 < M' by omega)
    have ep : p = 8 * n := by omega
    rw [g_Unpacker_run_L1, if_neg (show ¬ (65536 : Int32) ≤ nI i from nI_ge (b := 65536) (by omega) (by omega)), if_pos rfl, if_pos rfl, g_Unpacker_readBlock_0, nextBit_out (show n ≤ 9000 by omega) ep, Option.bind_some]
    dsimp only
    rw [if_neg (show ¬ (0 : Int32) ≤ -2 by decide), Option.bind_some]
    dsimp only
    rw [run_stop (Or.inl (show ¬ (2 : Int32) = 0 by decide)) (by omega), g_Mo_unpack_L1, if_pos rfl, if_pos rfl, bit_out hn ep, Option.bind_some]
    dsimp only
    rw [if_neg (show ¬ (0 : Int32) = 1 by decide), g_Mo_unpack_J2, if_neg (show ¬ (2 : Int32) = 0 by decide), if_neg n6, g_Mo_unpack_J3, if_neg n6, z_2, number_off (show ¬ nI 2 = 0 by decide) hN (by decide), Option.bind_some]
    dsimp only
    rw [if_neg (show ¬ nI 2 = 0 by decide), un_J5_off (show ¬ nI 2 = 0 by decide), un_stop (Or.inl (show ¬ nI 2 = 0 by decide)) (by omega), e6]
    refine ⟨2, p, m, bl, ma, 0, fo, go, upd told 6 (told 6), fl, lc, ls, c1, y1, c2, y2, sm, ln, rw_, lk, ll, k1, t1, k2, t2, ⟨by decide, hp, hm, ho, by rw [pk_us]; exact h6, by rw [pk_un (by decide)]; exact h7, fun j a _ => pk_un a⟩, rfl, rfl⟩
  | succ d ih =>
    intro i p m bl ma fo go told fl lc ls c1 y1 c2 y2 sm ln rw_ lk ll k1 t1 k2 t2 M M' hd hM hM' hi hp hm ho h6 h7
    obtain ⟨k, rfl⟩ := succ_of (show 0 < M by omega)
    obtain ⟨k', rfl⟩ := succ_of (show 0 < M' by omega)
    by_cases ep : p = 8 * n
    · rw [g_Unpacker_run_L1, if_neg (show ¬ (65536 : Int32) ≤ nI i from nI_ge (b := 65536) (by omega) (by omega)), if_pos rfl, if_pos rfl, g_Unpacker_readBlock_0, nextBit_out (show n ≤ 9000 by omega) ep, Option.bind_some]
      dsimp only
      rw [if_neg (show ¬ (0 : Int32) ≤ -2 by decide), Option.bind_some]
      dsimp only
      rw [run_stop (Or.inl (show ¬ (2 : Int32) = 0 by decide)) (by omega), g_Mo_unpack_L1, if_pos rfl, if_pos rfl, bit_out hn ep, Option.bind_some]
      dsimp only
      rw [if_neg (show ¬ (0 : Int32) = 1 by decide), g_Mo_unpack_J2, if_neg (show ¬ (2 : Int32) = 0 by decide), if_neg n6, g_Mo_unpack_J3, if_neg n6, z_2, number_off (show ¬ nI 2 = 0 by decide) hN (by decide), Option.bind_some]
      dsimp only
      rw [if_neg (show ¬ nI 2 = 0 by decide), un_J5_off (show ¬ nI 2 = 0 by decide), un_stop (Or.inl (show ¬ nI 2 = 0 by decide)) (by omega), e6]
      refine ⟨2, p, m, bl, ma, 0, fo, go, upd told 6 (told 6), fl, lc, ls, c1, y1, c2, y2, sm, ln, rw_, lk, ll, k1, t1, k2, t2, ⟨by decide, hp, hm, ho, by rw [pk_us]; exact h6, by rw [pk_un (by decide)]; exact h7, fun j a _ => pk_un a⟩, rfl, rfl⟩
    · have hlt : p < 8 * n := by omega
      have y01 : nI (bitOf g p) = 0 ∨ nI (bitOf g p) = 1 := by
        rcases bit01 g p with z | z <;> rw [z]
        · exact Or.inl rfl
        · exact Or.inr rfl
      obtain ⟨e, p', m', bl', ma', fo', go', told', fl', lc', ls', c1', y1', c2', y2', sm', ln', rw', lk', ll', k1', t1', k2', t2', ⟨w1, w2, w3, w4, w5, w6, w7, w8⟩, w9, w10⟩ := sim_blockJ (fl := fl) (lc := lc) (ls := ls) (c1 := c1) (y1 := y1) (c2 := c2) (y2 := y2) (sm := sm) (ln := ln) (rw_ := rw_) (lk := lk) (ll := ll) (k1 := k1) (t1 := t1) (k2 := k2) (t2 := t2) (la0 := 0) hb hn hN (show p + 1 ≤ 8 * n by omega) hm ho RF RD hF h6 h7 y01
      have eC : g_Unpacker_readBlock_0 N (nI n) 9000 f F 316 16 288 16 288 16 288 kf tf kd td 16 cf 288 yf 16 cd 288 yd 9000 (nI p) 0 bl fl lc lk ll ls c1 k1 t1 y1 c2 k2 t2 y2 ma fo (nI m) = some (nI e, nI p', nI (bitOf g p), bl', fl', lc', lk', ll', ls', c1', k1', t1', y1', c2', k2', t2', y2', ma', fo', nI m') := by
        rw [g_Unpacker_readBlock_0, nextBit_in hb (show n ≤ 9000 by omega) hlt, Option.bind_some]
        dsimp only
        rw [if_pos (nI_pos' (by have := bitOf_lt g p; omega))]
        rcases bit01 g p with z | z <;> rw [z] at w9 ⊢
        · rw [if_neg (by decide)]; exact w9
        · rw [if_pos (by decide)]; exact w9
      have eM : g_Mo_unpack_L1 N (nI n) 8 8192 g 9000 320 19 320 (k' + 1) 0 (nI p) 0 (nI m) told go ln sm rw_ = g_Mo_unpack_L1 N (nI n) 8 8192 g 9000 320 19 320 k' (nI (bitOf g p)) (nI p') (nI e) (nI m') told' go' ln' sm' rw' := by
        rw [g_Mo_unpack_L1, if_pos rfl, if_pos rfl, bit_in hb hn hlt, Option.bind_some]
        dsimp only
        rcases bit01 g p with z | z <;> rw [z] at w10 ⊢
        · rw [if_neg (by decide)]; exact w10 _
        · rw [if_pos (by decide)]; exact w10 _
      rw [g_Unpacker_run_L1, if_neg (show ¬ (65536 : Int32) ≤ nI i from nI_ge (b := 65536) (by omega) (by omega)), if_pos rfl, if_pos rfl, eC, Option.bind_some, eM]
      dsimp only
      by_cases c : e = 0 ∧ bitOf g p = 0
      · obtain ⟨c1z, c2z⟩ := c
        subst c1z
        rw [c2z, nI_1]
        have := w2 rfl
        obtain ⟨e', p'', m'', b1, b2, b3, a1, a2, a3, a4, a5, a6, a7, a8, a9, a10, a11, a12, a13, b4, b5, b6, b7, b8, b9, ⟨v1, v2, v3, v4, v5, v6, v7⟩, v8, v9⟩ := ih (i + 1) p' m' bl' ma' fo' go' told' fl' lc' ls' c1' y1' c2' y2' sm' ln' rw' lk' ll' k1' t1' k2' t2' k k' (by omega) (by omega) (by omega) (by omega) w3 w4 w5 w6 w7
        exact ⟨e', p'', m'', b1, b2, b3, a1, a2, a3, a4, a5, a6, a7, a8, a9, a10, a11, a12, a13, b4, b5, b6, b7, b8, b9, ⟨v1, v2, v3, v4, v5, v6, fun j x y => by rw [v7 j x y]; exact w8 j x y⟩, v8, v9⟩
      · have st : ¬ nI e = 0 ∨ ¬ nI (bitOf g p) = 0 := by
          by_cases z : e = 0
          · right
            have z2 : bitOf g p = 1 := by
              rcases bit01 g p with y | y
              · exact absurd ⟨z, y⟩ c
              · exact y
            rw [z2]; decide
          · exact Or.inl (nI_ne0 (by omega) (by omega))
        rw [run_stop st (by omega), un_stop st (by omega)]
        exact ⟨e, p', m', bl', ma', nI (bitOf g p), fo', go', told', fl', lc', ls', c1', y1', c2', y2', sm', ln', rw', lk', ll', k1', t1', k2', t2', ⟨w1, w3, w4, w5, w6, w7, w8⟩, rfl, rfl⟩
