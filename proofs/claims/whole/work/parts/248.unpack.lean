theorem byte_bits : ∀ b, b < 256 → (((((((b % 2 * 1 + b / 2 % 2 * 2) + b / 4 % 2 * 4) + b / 8 % 2 * 8) + b / 16 % 2 * 16) + b / 32 % 2 * 32) + b / 64 % 2 * 64) + b / 128 % 2 * 128) = b := by decide +kernel
theorem numOf_byte {g : Nat → Int32} {b : Nat} (hb : b < 256) (e : g 0 = nI b) : numOf g 0 8 = b := by
  have h : ∀ k, k < 8 → bitOf g (0 + k) = b / 2 ^ k % 2 := by
    intro k hk
    unfold bitOf
    rw [show (0 + k) / 8 = 0 by omega, show (0 + k) % 8 = k by omega, e, nI_clamp (by omega)]
  show 0 + bitOf g (0 + 0) * 2 ^ 0 + bitOf g (0 + 1) * 2 ^ 1 + bitOf g (0 + 2) * 2 ^ 2 + bitOf g (0 + 3) * 2 ^ 3 + bitOf g (0 + 4) * 2 ^ 4 + bitOf g (0 + 5) * 2 ^ 5 + bitOf g (0 + 6) * 2 ^ 6 + bitOf g (0 + 7) * 2 ^ 7 = b
  rw [h 0 (by omega), h 1 (by omega), h 2 (by omega), h 3 (by omega), h 4 (by omega), h 5 (by omega), h 6 (by omega), h 7 (by omega)]
  have := byte_bits b hb
  simp only [Nat.zero_add, Nat.pow_zero, Nat.div_one]
  exact this
theorem hd_y : ∀ y, y < 256 → ((nI y &&& 32) = 0 ↔ ¬ ((nI y >>> ((5 : Int32) &&& 31)) &&& 1) = 1) := by decide +kernel
theorem hd_x : ∀ x, x < 256 → ((nI x &&& 15) = nI x - nI x / 16 * 16 ∧ nI x >>> ((4 : Int32) &&& 31) = nI x / 16) := by decide +kernel
/-- the head: both go on with the same fault -/
theorem sim_head {f g : Nat → Int32} {n N : Nat} {F0 : Int32} (hb : rb f g n) (hn : n ≤ 8192) (hN : 100000 ≤ N) :
    ∃ (e p : Nat) (F : Int32), e < 13 ∧ p ≤ 8 * n ∧ (e = 0 → 0 < p ∧ F = (256 : Int32) <<< (((g 0) >>> ((4 : Int32) &&& 31)) &&& 31)) ∧ g_Unpacker_readHead_0 N (nI n) 9000 f 0 F0 = some (nI e, nI p, F) ∧
      ∀ (v0_bits v0_fault v0_outputSize : Int32) (told go ln sm rw_ : Nat → Int32), g_Mo_unpack_0 N (nI n) 8 8192 g 9000 320 19 320 v0_bits v0_fault v0_outputSize told go ln sm rw_ = g_Mo_unpack_L1 N (nI n) 8 8192 g 9000 320 19 320 N 0 (nI p) (nI e) 0 (upd (upd told 6 0) 7 0) go ln sm rw_ := by
  have e6 : (6 : Int32).toNatClampNeg = 6 := by decide
  have n6 : ¬ ((6 : Int32) < 0 ∨ 8 ≤ (6 : Int32).toNatClampNeg) := by decide
  have e7 : (7 : Int32).toNatClampNeg = 7 := by decide
  have n7 : ¬ ((7 : Int32) < 0 ∨ 8 ≤ (7 : Int32).toNatClampNeg) := by decide
  by_cases c1 : 0 + 8 ≤ 8 * n
  · obtain ⟨b, hbb, eb, _⟩ := hb 0 (by omega)
    have ex := numOf_byte hbb eb
    have a1 := nextNumber_in (N := N) hb (show n ≤ 9000 by omega) hN (show 8 ≤ 16 by decide) c1
    have a2 := number_in (N := N) hb hn hN (show 8 ≤ 16 by decide) c1
    rw [ex] at a1 a2
    have a1' : g_Row_nextNumber_0 N (nI n) 9000 f 8 0 = some (nI b, nI (0 + 8)) := a1
    have a2' : g_Mo_number_0 N (nI n) 8192 g 8 0 0 = some (nI b, 0, nI (0 + 8)) := a2
    by_cases c2 : 0 + 8 + 8 ≤ 8 * n
    · have hy := numOf_lt g (0 + 8) 8
      have b1 := nextNumber_in (N := N) hb (show n ≤ 9000 by omega) hN (show 8 ≤ 16 by decide) c2
      have b2 := number_in (N := N) hb hn hN (show 8 ≤ 16 by decide) c2
      generalize numOf g (0 + 8) 8 = y at hy b1 b2
      have b1' : g_Row_nextNumber_0 N (nI n) 9000 f 8 (nI (0 + 8)) = some (nI y, nI (0 + 8 + 8)) := b1
      have b2' : g_Mo_number_0 N (nI n) 8192 g 8 0 (nI (0 + 8)) = some (nI y, 0, nI (0 + 8 + 8)) := b2
      have H1 : g_Unpacker_readHead_0 N (nI n) 9000 f 0 F0 = (if ((((256 : Int32) * nI b) + nI y) - (((256 : Int32) * nI b) + nI y) / (31 : Int32) * (31 : Int32)) = 0 then (if (nI b &&& (15 : Int32)) = (8 : Int32) then (if (7 : Int32) < (nI b >>> ((4 : Int32) &&& 31)) then some ((1 : Int32), nI (0 + 8 + 8), F0) else (if (nI y &&& (32 : Int32)) = 0 then some ((0 : Int32), nI (0 + 8 + 8), (256 : Int32) <<< ((nI b >>> ((4 : Int32) &&& 31)) &&& 31)) else some ((1 : Int32), nI (0 + 8 + 8), F0))) else some ((1 : Int32), nI (0 + 8 + 8), F0)) else some ((1 : Int32), nI (0 + 8 + 8), F0)) := by
        rw [g_Unpacker_readHead_0, a1', Option.bind_some, b1', Option.bind_some]
        dsimp only
        rw [if_neg (nI_pos (by omega)), if_pos (nI_pos' (by omega))]
      have H2 : ∀ (v0_bits v0_fault v0_outputSize : Int32) (told go ln sm rw_ : Nat → Int32), g_Mo_unpack_0 N (nI n) 8 8192 g 9000 320 19 320 v0_bits v0_fault v0_outputSize told go ln sm rw_ = (if ((((256 : Int32) * nI b) + nI y) - (((256 : Int32) * nI b) + nI y) / (31 : Int32) * (31 : Int32)) = 0 then (if (nI b &&& (15 : Int32)) = (8 : Int32) then (if (7 : Int32) < (nI b >>> ((4 : Int32) &&& 31)) then g_Mo_unpack_L1 N (nI n) 8 8192 g 9000 320 19 320 N 0 (nI (0 + 8 + 8)) 1 0 (upd (upd told 6 0) 7 0) go ln sm rw_ else (if (nI y &&& (32 : Int32)) = 0 then g_Mo_unpack_L1 N (nI n) 8 8192 g 9000 320 19 320 N 0 (nI (0 + 8 + 8)) 0 0 (upd (upd told 6 0) 7 0) go ln sm rw_ else g_Mo_unpack_L1 N (nI n) 8 8192 g 9000 320 19 320 N 0 (nI (0 + 8 + 8)) 1 0 (upd (upd told 6 0) 7 0) go ln sm rw_)) else g_Mo_unpack_L1 N (nI n) 8 8192 g 9000 320 19 320 N 0 (nI (0 + 8 + 8)) 1 0 (upd (upd told 6 0) 7 0) go ln sm rw_) else g_Mo_unpack_L1 N (nI n) 8 8192 g 9000 320 19 320 N 0 (nI (0 + 8 + 8)) 1 0 (upd (upd told 6 0) 7 0) go ln sm rw_) := by
        intro v0_bits v0_fault v0_outputSize told go ln sm rw_
        rw [g_Mo_unpack_0, if_neg n6, if_neg n7, a2', Option.bind_some]
        dsimp only
        rw [b2', Option.bind_some]
        dsimp only
        rw [if_pos rfl, e6, e7, ← (hd_x b hbb).1, ← (hd_x b hbb).2]
        by_cases y1 : (nI y &&& (32 : Int32)) = 0
        · rw [if_pos y1, if_neg ((hd_y y hy).mp y1)]; rfl
        · rw [if_neg y1, if_pos (Classical.byContradiction (fun z => y1 ((hd_y y hy).mpr z)))]; rfl
      rw [H1]
      by_cases q1 : ((((256 : Int32) * nI b) + nI y) - (((256 : Int32) * nI b) + nI y) / (31 : Int32) * (31 : Int32)) = 0
      · by_cases q2 : (nI b &&& (15 : Int32)) = (8 : Int32)
        · by_cases q3 : (7 : Int32) < (nI b >>> ((4 : Int32) &&& 31))
          · refine ⟨1, 0 + 8 + 8, F0, by decide, c2, fun z => by omega, ?_, ?_⟩
            · rw [if_pos q1, if_pos q2, if_pos q3]; rfl
            · intro v1 v2 v3 told go ln sm rw_
              rw [H2, if_pos q1, if_pos q2, if_pos q3]; rfl
          · by_cases q4 : (nI y &&& (32 : Int32)) = 0
            · refine ⟨0, 0 + 8 + 8, (256 : Int32) <<< (((g 0) >>> ((4 : Int32) &&& 31)) &&& 31), by decide, c2, fun _ => ⟨by omega, rfl⟩, ?_, ?_⟩
              · rw [if_pos q1, if_pos q2, if_neg q3, if_pos q4, eb]; rfl
              · intro v1 v2 v3 told go ln sm rw_
                rw [H2, if_pos q1, if_pos q2, if_neg q3, if_pos q4]; rfl
            · refine ⟨1, 0 + 8 + 8, F0, by decide, c2, fun z => by omega, ?_, ?_⟩
              · rw [if_pos q1, if_pos q2, if_neg q3, if_neg q4]; rfl
              · intro v1 v2 v3 told go ln sm rw_
                rw [H2, if_pos q1, if_pos q2, if_neg q3, if_neg q4]; rfl
        · refine ⟨1, 0 + 8 + 8, F0, by decide, c2, fun z => by omega, ?_, ?_⟩
          · rw [if_pos q1, if_neg q2]; rfl
          · intro v1 v2 v3 told go ln sm rw_
            rw [H2, if_pos q1, if_neg q2]; rfl
      · refine ⟨1, 0 + 8 + 8, F0, by decide, c2, fun z => by omega, ?_, ?_⟩
        · rw [if_neg q1]; rfl
        · intro v1 v2 v3 told go ln sm rw_
          rw [H2, if_neg q1]; rfl
    · have b1 := nextNumber_out (f := f) (N := N) (show n ≤ 9000 by omega) (show 8 ≤ 16 by decide) c1 (show 8 * n < 0 + 8 + 8 by omega)
      have b2 := number_short (N := N) hb hn hN (show 8 ≤ 16 by decide) c1 (show 8 * n < 0 + 8 + 8 by omega)
      have b1' : g_Row_nextNumber_0 N (nI n) 9000 f 8 (nI (0 + 8)) = some (-2, nI (8 * n)) := b1
      have b2' : g_Mo_number_0 N (nI n) 8192 g 8 0 (nI (0 + 8)) = some (nI (numOf g (0 + 8) (8 * n - (0 + 8))), 2, nI (8 * n)) := b2
      refine ⟨2, 8 * n, F0, by decide, Nat.le_refl _, fun z => by omega, ?_, ?_⟩
      · rw [g_Unpacker_readHead_0, a1', Option.bind_some, b1', Option.bind_some]
        dsimp only
        rw [if_neg (nI_pos (by omega)), if_neg (by decide)]; rfl
      · intro v1 v2 v3 told go ln sm rw_
        rw [g_Mo_unpack_0, if_neg n6, if_neg n7, a2', Option.bind_some]
        dsimp only
        rw [b2', Option.bind_some]
        dsimp only
        rw [if_neg (show ¬ (2 : Int32) = 0 by decide), e6, e7]; rfl
  · have b1 := nextNumber_out (f := f) (N := N) (show n ≤ 9000 by omega) (show 8 ≤ 16 by decide) (Nat.zero_le _) (show 8 * n < 0 + 8 by omega)
    have b2 := number_short (N := N) hb hn hN (show 8 ≤ 16 by decide) (Nat.zero_le _) (show 8 * n < 0 + 8 by omega)
    have b1' : g_Row_nextNumber_0 N (nI n) 9000 f 8 0 = some (-2, nI (8 * n)) := b1
    have b2' : g_Mo_number_0 N (nI n) 8192 g 8 0 0 = some (nI (numOf g 0 (8 * n - 0)), 2, nI (8 * n)) := b2
    have d1 := nextNumber_out (f := f) (N := N) (show n ≤ 9000 by omega) (show 8 ≤ 16 by decide) (Nat.le_refl _) (show 8 * n < 8 * n + 8 by omega)
    have d1' : g_Row_nextNumber_0 N (nI n) 9000 f 8 (nI (8 * n)) = some (-2, nI (8 * n)) := d1
    have d2 := number_off (g := g) (n := n) (k := 8) (p := nI (8 * n)) (show ¬ (2 : Int32) = 0 by decide) hN (by decide)
    have d2' : g_Mo_number_0 N (nI n) 8192 g 8 2 (nI (8 * n)) = some (0, 2, nI (8 * n)) := d2
    refine ⟨2, 8 * n, F0, by decide, Nat.le_refl _, fun z => by omega, ?_, ?_⟩
    · rw [g_Unpacker_readHead_0, b1', Option.bind_some, d1', Option.bind_some]
      dsimp only
      rw [if_pos (by decide)]; rfl
    · intro v1 v2 v3 told go ln sm rw_
      rw [g_Mo_unpack_0, if_neg n6, if_neg n7, b2', Option.bind_some]
      dsimp only
      rw [d2', Option.bind_some]
      dsimp only
      rw [if_neg (show ¬ (2 : Int32) = 0 by decide), e6, e7]; rfl
theorem op_unpack {f g cf yf cd yd fo go told fl lc ls c1 y1 c2 y2 sm ln rw_ : Nat → Int32} {n N lf ld : Nat} {kf tf kd td vip voc vop ubl uma ula uF lk ll k1 t1 k2 t2 br vb vf vos : Int32} (hb : rb f g n) (hn : n ≤ 8192) (hN : 100000 ≤ N) (RF : rc fL 288 lf cf yf kf tf) (RD : rc fD 32 ld cd yd kd td) :
    ∃ (A : Int32) (e p' m' : Nat) (bl' ma' la' F' : Int32) (fo' go' told' fl' lc' ls' c1' y1' c2' y2' sm' ln' rw' : Nat → Int32) (lk' ll' k1' t1' k2' t2' : Int32),
      (m' ≤ 8192 ∧ rb fo' go' m' ∧ told' 6 = bl' ∧ told' 7 = ma' ∧ (∀ j, j ≠ 6 → j ≠ 7 → told' j = told j)) ∧
      g_Bp_unpack_0 N (nI n) kf tf kd td 9000 f 316 16 288 16 288 16 288 16 cf 288 yf 16 cd 288 yd 9000 vip voc vop ubl uma ula uF fl lc lk ll ls c1 k1 t1 y1 c2 k2 t2 y2 fo br = some (A, nI p', nI m', 0, bl', ma', la', F', fl', lc', lk', ll', ls', c1', k1', t1', y1', c2', k2', t2', y2', fo', nI p') ∧
      g_Mo_unpack_0 N (nI n) 8 8192 g 9000 320 19 320 vb vf vos told go ln sm rw_ = some (A, nI p', nI e, nI m', told', go', ln', sm', rw') := by
  obtain ⟨e0, p0, F, h1, h2, h3, h4, h5⟩ := sim_head (F0 := uF) hb hn hN
  have T6 : upd (upd told 6 0) 7 0 6 = 0 := by rw [pk_un (by decide), pk_us]
  have T7 : upd (upd told 6 0) 7 0 7 = 0 := by rw [pk_us]
  have TJ : ∀ j, j ≠ 6 → j ≠ 7 → upd (upd told 6 0) 7 0 j = told j := fun j a b => by rw [pk_un b, pk_un a]
  have hA : ∀ (e m : Nat), e < 13 → (if nI e = 0 then nI m else -10 - nI e) = unA e m := by
    intro e m he
    unfold unA
    by_cases q : e = 0
    · subst q; rfl
    · rw [if_neg q, if_neg (nI_ne0 (by omega) (by omega))]
  have fin : ∀ (e p' m' : Nat) (bl' ma' la' : Int32) (fo' fl' lc' ls' c1' y1' c2' y2' : Nat → Int32) (lk' ll' k1' t1' k2' t2' : Int32), e < 13 →
      g_Unpacker_run_0 N (nI n) 9000 f kf tf kd td 316 16 288 16 288 16 288 16 cf 288 yf 16 cd 288 yd 9000 vip voc vop ubl uma ula uF fl lc lk ll ls c1 k1 t1 y1 c2 k2 t2 y2 fo br = some (nI e, nI p', nI m', 0, bl', ma', la', F, fl', lc', lk', ll', ls', c1', k1', t1', y1', c2', k2', t2', y2', fo', nI p') →
      g_Bp_unpack_0 N (nI n) kf tf kd td 9000 f 316 16 288 16 288 16 288 16 cf 288 yf 16 cd 288 yd 9000 vip voc vop ubl uma ula uF fl lc lk ll ls c1 k1 t1 y1 c2 k2 t2 y2 fo br = some (unA e m', nI p', nI m', 0, bl', ma', la', F, fl', lc', lk', ll', ls', c1', k1', t1', y1', c2', k2', t2', y2', fo', nI p') := by
    intro e p' m' bl' ma' la' fo' fl' lc' ls' c1' y1' c2' y2' lk' ll' k1' t1' k2' t2' he hr
    rw [g_Bp_unpack_0, hr, Option.bind_some, ← hA e m' he]
    dsimp only
    by_cases q : nI e = 0
    · rw [if_pos q, if_pos q]
    · rw [if_neg q, if_neg q]
  have eR : g_Unpacker_run_0 N (nI n) 9000 f kf tf kd td 316 16 288 16 288 16 288 16 cf 288 yf 16 cd 288 yd 9000 vip voc vop ubl uma ula uF fl lc lk ll ls c1 k1 t1 y1 c2 k2 t2 y2 fo br = g_Unpacker_run_L1 N (nI n) 9000 f kf tf kd td 316 16 288 16 288 16 288 16 cf 288 yf 16 cd 288 yd 9000 N (nI e0) 0 (nI p0) 0 0 0 0 0 F fl lc lk ll ls c1 k1 t1 y1 c2 k2 t2 y2 fo br := by
    rw [g_Unpacker_run_0, g_Row_clear_0, Option.bind_some, h4, Option.bind_some]
  by_cases q : e0 = 0
  · subst q
    obtain ⟨hp0, hF⟩ := h3 rfl
    obtain ⟨e, p', m', bl', ma', la', fo', go', told', fl', lc', ls', c1', y1', c2', y2', sm', ln', rw', lk', ll', k1', t1', k2', t2', ⟨w1, w2, w3, w4, w5, w6, w7⟩, w8, w9⟩ := sim_blocks (vp := 0) (br := br) hb hn hN RF RD hF (8 * n) 0 p0 0 0 0 fo go (upd (upd told 6 0) 7 0) fl lc ls c1 y1 c2 y2 sm ln rw_ lk ll k1 t1 k2 t2 N N (by omega) (by omega) (by omega) hp0 h2 (by omega) rb_0 T6 T7
    obtain ⟨e', p'', v1, v2, v3, v4⟩ := sim_tail (told := told') (fl := fl') (lc := lc') (ls := ls') (c1 := c1') (y1 := y1') (c2 := c2') (y2 := y2') (sm := sm') (ln := ln') (rw_ := rw') (vp := 0) (bl := bl') (ma := ma') (la := la') (F := F) (lk := lk') (ll := ll') (k1 := k1') (t1 := t1') (k2 := k2') (t2 := t2') (br := br) hb hn hN w2 w3 w4 w1
    refine ⟨unA e' m', e', p'', m', bl', ma', la', F, fo', go', told', fl', lc', ls', c1', y1', c2', y2', sm', ln', rw', lk', ll', k1', t1', k2', t2', ⟨w3, w4, w5, w6, fun j a b => by rw [w7 j a b]; exact TJ j a b⟩, fin _ _ _ _ _ _ _ _ _ _ _ _ _ _ _ _ _ _ _ _ v1 ?_, ?_⟩
    · rw [eR, ← v3, ← w8]; rfl
    · rw [h5, ← v4, ← w9]; rfl
  · have z : ¬ nI e0 = 0 := nI_ne0 (by omega) (by omega)
    obtain ⟨e', p'', v1, v2, v3, v4⟩ := sim_tail (fo := fo) (go := go) (m := 0) (told := upd (upd told 6 0) 7 0) (fl := fl) (lc := lc) (ls := ls) (c1 := c1) (y1 := y1) (c2 := c2) (y2 := y2) (sm := sm) (ln := ln) (rw_ := rw_) (vp := 0) (bl := 0) (ma := 0) (la := 0) (F := F) (lk := lk) (ll := ll) (k1 := k1) (t1 := t1) (k2 := k2) (t2 := t2) (br := br) hb hn hN h2 (by omega) rb_0 h1
    refine ⟨unA e' 0, e', p'', 0, 0, 0, 0, F, fo, go, upd (upd told 6 0) 7 0, fl, lc, ls, c1, y1, c2, y2, sm, ln, rw_, lk, ll, k1, t1, k2, t2, ⟨by omega, rb_0, T6, T7, TJ⟩, fin _ _ _ _ _ _ _ _ _ _ _ _ _ _ _ _ _ _ _ _ v1 ?_, ?_⟩
    · rw [eR, run_stop (Or.inl z) (by omega)]; exact v3
    · rw [h5, un_stop (Or.inl z) (by omega)]; exact v4
