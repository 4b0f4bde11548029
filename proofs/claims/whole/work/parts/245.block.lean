theorem bit01 (g : Nat → Int32) (p : Nat) : bitOf g p = 0 ∨ bitOf g p = 1 := by have := bitOf_lt g p; omega
/-- what a block leaves behind, class beside reference -/
def ub (n p : Nat) (e p' m' : Nat) (la x bl' ma' : Int32) (fo' go' told told' : Nat → Int32) : Prop :=
  e < 13 ∧ (e = 0 → p < p') ∧ p' ≤ 8 * n ∧ m' ≤ 8192 ∧ rb fo' go' m' ∧ told' 6 = bl' ∧ told' 7 = ma' ∧ (∀ j, j ≠ 6 → j ≠ 7 → told' j = told j) ∧ (e = 0 → la = x)
theorem un_J5_off {g ln go told sm rw_ : Nat → Int32} {n N : Nat} {K : Int32 → Int32 → Int32 → Int32 → (Nat → Int32) → (Nat → Int32) → (Nat → Int32) → (Nat → Int32) → (Nat → Int32) → Option (Int32 × Int32 × Int32 × Int32 × (Nat → Int32) × (Nat → Int32) × (Nat → Int32) × (Nat → Int32) × (Nat → Int32))} {a p m x3 x4 : Int32} (ha : ¬ a = 0) : g_Mo_unpack_J4 N (nI n) 8 8192 g 9000 320 19 320 K x3 x4 p a m told go ln sm rw_ = K x3 p a m told go ln sm rw_ := by
  rw [g_Mo_unpack_J4, if_neg ha, g_Mo_unpack_J5, if_neg ha]
set_option maxRecDepth 100000 in
theorem sim_blockJ {f g fo go told fl lc ls c1 y1 c2 y2 cf yf cd yd sm ln rw_ : Nat → Int32} {n N p m lf ld : Nat} {F kf tf kd td bl ma lk ll k1 t1 k2 t2 la0 y : Int32} (hb : rb f g n) (hn : n ≤ 8192) (hN : 100000 ≤ N) (hp : p ≤ 8 * n) (hm : m ≤ 8192) (ho : rb fo go m) (RF : rc fL 288 lf cf yf kf tf) (RD : rc fD 32 ld cd yd kd td) (hF : F = (256 : Int32) <<< (((g 0) >>> ((4 : Int32) &&& 31)) &&& 31)) (h6 : told 6 = bl) (h7 : told 7 = ma) (hy : y = 0 ∨ y = 1) :
    ∃ (e p' m' : Nat) (bl' ma' : Int32) (fo' go' told' fl' lc' ls' c1' y1' c2' y2' sm' ln' rw' : Nat → Int32) (lk' ll' k1' t1' k2' t2' : Int32),
      (e < 13 ∧ (e = 0 → p ≤ p') ∧ p' ≤ 8 * n ∧ m' ≤ 8192 ∧ rb fo' go' m' ∧ told' 6 = bl' ∧ told' 7 = ma' ∧ (∀ j, j ≠ 6 → j ≠ 7 → told' j = told j)) ∧
      g_Unpacker_readBlock_J1 N (nI n) 9000 f F 316 16 288 16 288 16 288 kf tf kd td 16 cf 288 yf 16 cd 288 yd 9000 y (nI p) la0 bl fl lc lk ll ls c1 k1 t1 y1 c2 k2 t2 y2 ma fo (nI m) = some (nI e, nI p', y, bl', fl', lc', lk', ll', ls', c1', k1', t1', y1', c2', k2', t2', y2', ma', fo', nI m') ∧
      ∀ (K : Int32 → Int32 → Int32 → Int32 → (Nat → Int32) → (Nat → Int32) → (Nat → Int32) → (Nat → Int32) → (Nat → Int32) → Option (Int32 × Int32 × Int32 × Int32 × (Nat → Int32) × (Nat → Int32) × (Nat → Int32) × (Nat → Int32) × (Nat → Int32))), g_Mo_unpack_J2 N (nI n) 8 8192 g 9000 320 19 320 K y (nI p) 0 (nI m) told go ln sm rw_ = K y (nI p') (nI e) (nI m') told' go' ln' sm' rw' := by
  have e6 : (6 : Int32).toNatClampNeg = 6 := by decide
  have n6 : ¬ ((6 : Int32) < 0 ∨ 8 ≤ (6 : Int32).toNatClampNeg) := by decide
  have T6 : upd told 6 (told 6 + 1) 6 = bl + 1 := by rw [pk_us, h6]
  have T7 : upd told 6 (told 6 + 1) 7 = ma := by rw [pk_un (by decide), h7]
  have TJ : ∀ j, j ≠ 6 → j ≠ 7 → upd told 6 (told 6 + 1) j = told j := fun j a _ => pk_un a
  rw [g_Unpacker_readBlock_J1, if_pos hy, z_2]
  by_cases q1 : p + 2 ≤ 8 * n
  · have hk := numOf_lt g p 2
    have a1 := nextNumber_in (N := N) hb (show n ≤ 9000 by omega) hN (show 2 ≤ 16 by decide) q1
    have a2 := number_in (N := N) hb hn hN (show 2 ≤ 16 by decide) q1
    generalize numOf g p 2 = k at hk a1 a2
    have hM : ∀ K, g_Mo_unpack_J2 N (nI n) 8 8192 g 9000 320 19 320 K y (nI p) 0 (nI m) told go ln sm rw_ = (if nI k = 3 then g_Mo_unpack_J4 N (nI n) 8 8192 g 9000 320 19 320 K y (nI k) (nI (p + 2)) 3 (nI m) (upd told 6 (told 6 + 1)) go ln sm rw_ else g_Mo_unpack_J4 N (nI n) 8 8192 g 9000 320 19 320 K y (nI k) (nI (p + 2)) 0 (nI m) (upd told 6 (told 6 + 1)) go ln sm rw_) := by
      intro K
      rw [g_Mo_unpack_J2, if_pos rfl, if_neg n6, e6, g_Mo_unpack_J3, if_neg n6, z_2, a2, Option.bind_some]
      dsimp only
      rw [if_pos rfl, e6]
      rfl
    rw [a1, Option.bind_some]
    dsimp only
    rw [if_pos (nI_pos' (by omega))]
    rcases (show k = 0 ∨ k = 1 ∨ k = 2 ∨ k = 3 by omega) with rfl | rfl | rfl | rfl
    · rw [if_pos (show nI 0 = 0 from rfl)]
      obtain ⟨e, p', m', fo', go', w1, w2, w3, w4, w5, w6⟩ := sim_stored hb hn hN q1 hm ho
      refine ⟨e, p', m', bl + 1, ma, fo', go', upd told 6 (told 6 + 1), fl, lc, ls, c1, y1, c2, y2, sm, ln, rw_, lk, ll, k1, t1, k2, t2, ⟨w1, fun _ => by omega, w2.2, w3, w4, T6, T7, TJ⟩, ?_, fun K => ?_⟩
      · rw [w5, Option.bind_some]
      · rw [hM, if_neg (by decide), g_Mo_unpack_J4, if_pos rfl, if_pos (show nI 0 = 0 from rfl), w6, Option.bind_some]
    · obtain ⟨lnF, eF, mF, mD⟩ := fixed_ok hN ln
      obtain ⟨e, p', m', ma', fo', go', told', w1, w0, w2, w3, w4, w5, w6, w7, w8⟩ := sim_syms hb hn hN mF mD fL_ok fD_ok RF RD hF (8 * n) 0 (p + 2) m ma fo go (upd told 6 (told 6 + 1)) N N (by omega) (by omega) (by omega) (by omega) q1 hm ho T7
      have w7' : g_Unpacker_readSymbols_L1 N kf tf (nI n) 9000 f 16 cf 288 yf F kd td 16 cd 288 yd 9000 N 0 (nI (p + 2)) ma fo (nI m) = some (nI e, nI p', ma', fo', nI m') := w7
      refine ⟨e, p', m', bl + 1, ma', fo', go', told', fl, lc, ls, c1, y1, c2, y2, sm, lnF, rw_, lk, ll, k1, t1, k2, t2, ⟨w1, fun z => by have := w0 z; omega, w2, w3, w4, by rw [w6 6 (by decide)]; exact T6, w5, fun j a b => by rw [w6 j b]; exact TJ j a b⟩, ?_, fun K => ?_⟩
      · rw [if_neg (by decide), if_pos (show nI 1 = 1 from rfl), g_Unpacker_readSymbols_0, w7', Option.bind_some]
      · rw [hM, if_neg (by decide), g_Mo_unpack_J4, if_pos rfl, if_neg (by decide), g_Mo_unpack_J5, if_pos rfl, eF, Option.bind_some, if_neg (by decide), g_Mo_unpack_J6, g_Mo_readSymbols_0, w8, Option.bind_some]
    · obtain ⟨lnF, eF, mF, mD⟩ := fixed_ok hN ln
      rw [if_neg (by decide), if_neg (by decide), if_pos rfl]
      obtain ⟨e, p1, fl', lc', ls', c1', y1', c2', y2', sm', ln', rw', lk', ll', k1', t1', k2', t2', u1, u2, u3, u4, u5⟩ := sim_codes (fl := fl) (lc := lc) (ls := ls) (m1 := c1) (s1 := y1) (m2 := c2) (s2 := y2) (sm := sm) (ln := lnF) (rw_ := rw_) (lk := lk) (ll := ll) (k1 := k1) (t1 := t1) (k2 := k2) (t2 := t2) hb hn hN q1
      have hR : ∀ K, g_Mo_unpack_J2 N (nI n) 8 8192 g 9000 320 19 320 K y (nI p) 0 (nI m) told go ln sm rw_ = g_Mo_unpack_J6 N (nI n) 8 8192 g 9000 320 K y (nI p1) (nI e) (nI m) (upd told 6 (told 6 + 1)) go ln' sm' rw' := by
        intro K
        rw [hM, if_neg (by decide), g_Mo_unpack_J4, if_pos rfl, if_neg (by decide), g_Mo_unpack_J5, if_pos rfl, eF, Option.bind_some, if_pos (show nI 2 = 2 from rfl), u4, Option.bind_some]
      rw [u3, Option.bind_some]
      dsimp only
      rw [g_Unpacker_readBlock_J2]
      by_cases q2 : e = 0
      · subst q2
        obtain ⟨v0, len1, len2, l1, l2, v1, v2, v3, v4, v5, v6⟩ := u5 rfl
        obtain ⟨e, p', m', ma', fo', go', told', w1, w0, w2, w3, w4, w5, w6, w7, w8⟩ := sim_syms hb hn hN v1 v2 v3 v4 v5 v6 hF (8 * n) 0 p1 m ma fo go (upd told 6 (told 6 + 1)) N N (by omega) (by omega) (by omega) (by omega) u2 hm ho T7
        have w7' : g_Unpacker_readSymbols_L1 N k1' t1' (nI n) 9000 f 16 c1' 288 y1' F k2' t2' 16 c2' 288 y2' 9000 N 0 (nI p1) ma fo (nI m) = some (nI e, nI p', ma', fo', nI m') := w7
        refine ⟨e, p', m', bl + 1, ma', fo', go', told', fl', lc', ls', c1', y1', c2', y2', sm', ln', rw', lk', ll', k1', t1', k2', t2', ⟨w1, fun z => by have := w0 z; omega, w2, w3, w4, by rw [w6 6 (by decide)]; exact T6, w5, fun j a b => by rw [w6 j b]; exact TJ j a b⟩, ?_, fun K => ?_⟩
        · rw [if_pos (show nI 0 = 0 from rfl), g_Unpacker_readSymbols_0, w7', Option.bind_some]
        · rw [hR, g_Mo_unpack_J6, g_Mo_readSymbols_0]
          show Option.bind (g_Mo_readSymbols_L1 N (nI n) 320 ln' 8192 g 9000 8 N 1 0 (nI p1) go (nI m) (upd told 6 (told 6 + 1))) _ = _
          rw [w8, Option.bind_some]
      · have z3 : ¬ nI e = 0 := nI_ne0 (by omega) (by omega)
        refine ⟨e, p1, m, bl + 1, ma, fo, go, upd told 6 (told 6 + 1), fl', lc', ls', c1', y1', c2', y2', sm', ln', rw', lk', ll', k1', t1', k2', t2', ⟨u1, fun z => absurd z q2, u2, hm, ho, T6, T7, TJ⟩, ?_, fun K => ?_⟩
        · rw [if_neg z3]
        · rw [hR, g_Mo_unpack_J6, g_Mo_readSymbols_0, rs_off z3 (by omega), Option.bind_some]
    · rw [if_neg (by decide), if_neg (by decide), if_neg (by decide), g_Unpacker_readBlock_J2, if_neg (by decide)]
      refine ⟨3, p + 2, m, bl + 1, ma, fo, go, upd told 6 (told 6 + 1), fl, lc, ls, c1, y1, c2, y2, sm, ln, rw_, lk, ll, k1, t1, k2, t2, ⟨by decide, fun _ => by omega, q1, hm, ho, T6, T7, TJ⟩, rfl, fun K => ?_⟩
      rw [hM, if_pos (show nI 3 = 3 from rfl)]
      exact un_J5_off (by decide)
  · have a1 := nextNumber_out (f := f) (N := N) (show n ≤ 9000 by omega) (show 2 ≤ 16 by decide) hp (by omega)
    have a2 := number_short (N := N) hb hn hN (show 2 ≤ 16 by decide) hp (by omega)
    rw [a1, Option.bind_some]
    dsimp only
    rw [if_neg (by decide)]
    refine ⟨2, 8 * n, m, bl + 1, ma, fo, go, upd told 6 (told 6 + 1), fl, lc, ls, c1, y1, c2, y2, sm, ln, rw_, lk, ll, k1, t1, k2, t2, ⟨by decide, fun _ => hp, Nat.le_refl _, hm, ho, T6, T7, TJ⟩, rfl, fun K => ?_⟩
    rw [g_Mo_unpack_J2, if_pos rfl, if_neg n6, e6, g_Mo_unpack_J3, if_neg n6, z_2, a2, Option.bind_some]
    dsimp only
    rw [if_neg (by decide), e6]
    exact un_J5_off (by decide)
