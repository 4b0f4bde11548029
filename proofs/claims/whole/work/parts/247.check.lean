def ad (g : Nat → Int32) : Nat → Nat × Nat
  | 0 => (1, 0)
  | i + 1 => (((ad g i).1 + (g i).toNatClampNeg) % 65521, ((ad g i).2 + ((ad g i).1 + (g i).toNatClampNeg) % 65521) % 65521)
theorem ad_lt (g : Nat → Int32) : ∀ i, (ad g i).1 < 65521 ∧ (ad g i).2 < 65521 := by
  intro i
  cases i with
  | zero => exact ⟨(by decide : 1 < 65521), (by decide : 0 < 65521)⟩
  | succ i => exact ⟨Nat.mod_lt _ (by decide), Nat.mod_lt _ (by decide)⟩
def adv (g : Nat → Int32) (n : Nat) : Nat := (ad g n).2 * 65536 + (ad g n).1
theorem adv_lt (g : Nat → Int32) (n : Nat) : adv g n < 2 ^ 32 := by
  have := ad_lt g n
  unfold adv
  omega
theorem or_hi {b a : Nat} (k : Nat) (ha : a < 2 ^ k) : b * 2 ^ k ||| a = b * 2 ^ k + a := by
  have e := Nat.two_pow_add_eq_or_of_lt ha b
  rw [Nat.mul_comm b, ← e]
theorem check_loop {f g : Nat → Int32} {n : Nat} (h : rb f g n) (hn : n ≤ 9000) : ∀ (d i M : Nat), i + d = n → d < M → g_Row_check_L1 (nI n) 9000 f M (nI (ad g i).1) (nI (ad g i).2) (nI i) = some (nI (adv g n)) := by
  intro d
  induction d with
  | zero =>
    intro i M hi hM
    obtain ⟨m, rfl⟩ := succ_of hM
    have e : i = n := by omega
    subst e
    have hl := ad_lt g i
    rw [g_Row_check_L1, if_pos (nI_le (Nat.le_refl _) (by omega)), pk_shlN ((16 : Int32) &&& 31) 16 (by decide) (by omega), nI_or]
    show some (nI ((ad g i).2 * 2 ^ 16 ||| (ad g i).1)) = _
    rw [or_hi 16 (by omega)]
    rfl
  | succ d ih =>
    intro i M hi hM
    obtain ⟨m, rfl⟩ := succ_of hM
    have hl := ad_lt g i
    obtain ⟨b, hb, e1, e2⟩ := h i (by omega)
    have eb : (g i).toNatClampNeg = b := by rw [e1, nI_clamp (by omega)]
    rw [g_Row_check_L1, if_neg (nI_ge (by omega) (by omega)), Row_byteAt_in h hn (by omega), Option.bind_some, e1, nI_add, z_65521, pk_rem (by omega) (by omega) (by omega), nI_add, pk_rem (by omega) (by omega) (by omega), nI_1]
    have r := ih (i + 1) m (by omega) (by omega)
    have d1 : (ad g (i + 1)).1 = ((ad g i).1 + b) % 65521 := by rw [← eb]; rfl
    have d2 : (ad g (i + 1)).2 = ((ad g i).2 + ((ad g i).1 + b) % 65521) % 65521 := by rw [← eb]; rfl
    rw [d1, d2] at r
    exact r
theorem check_ok {f g : Nat → Int32} {n N : Nat} (h : rb f g n) (hn : n ≤ 9000) (hN : 100000 ≤ N) : g_Row_check_0 N (nI n) 9000 f = some (nI (adv g n)) := by
  rw [g_Row_check_0]
  exact check_loop h hn n 0 N (by omega) (by omega)
theorem l_65521 : (65521 : Int64) = lN 65521 := rfl
theorem l_65536 : (65536 : Int64) = lN 65536 := rfl
theorem l_256 : (256 : Int64) = lN 256 := rfl
theorem checkOf_loop {f g : Nat → Int32} {n n0 : Nat} (h : rb f g n) (hn : n ≤ n0) (hn0 : n0 ≤ 9000) : ∀ (d i M : Nat), i + d = n → d < M → g_Mo_checkOf_L1 n0 g M (nI n) (lN (ad g i).1) (lN (ad g i).2) (nI i) = some (lN (adv g n)) := by
  intro d
  induction d with
  | zero =>
    intro i M hi hM
    obtain ⟨m, rfl⟩ := succ_of hM
    have e : i = n := by omega
    subst e
    rw [g_Mo_checkOf_L1, if_pos (nI_le (Nat.le_refl _) (by omega)), l_65536, lN_mul, lN_add, Nat.mul_comm]
    rfl
  | succ d ih =>
    intro i M hi hM
    obtain ⟨m, rfl⟩ := succ_of hM
    have hl := ad_lt g i
    obtain ⟨b, hb, e1, e2⟩ := h i (by omega)
    have eb : (g i).toNatClampNeg = b := by rw [e1, nI_clamp (by omega)]
    rw [g_Mo_checkOf_L1, if_neg (nI_ge (by omega) (by omega)), if_neg (nI_in (by omega) (by omega)), nI_clamp (by omega), e1, nI_l (by omega), lN_add, l_65521, pk_lRem (by omega) (by omega) (by omega), lN_add, pk_lRem (by omega) (by omega) (by omega), nI_1]
    have r := ih (i + 1) m (by omega) (by omega)
    have d1 : (ad g (i + 1)).1 = ((ad g i).1 + b) % 65521 := by rw [← eb]; rfl
    have d2 : (ad g (i + 1)).2 = ((ad g i).2 + ((ad g i).1 + b) % 65521) % 65521 := by rw [← eb]; rfl
    rw [d1, d2] at r
    exact r
theorem checkOf_ok {f g : Nat → Int32} {n n0 N : Nat} (h : rb f g n) (hn : n ≤ n0) (hn0 : n0 ≤ 9000) (hN : 100000 ≤ N) : g_Mo_checkOf_0 N n0 g (nI n) = some (lN (adv g n)) := by
  rw [g_Mo_checkOf_0]
  exact checkOf_loop h hn hn0 n 0 N (by omega) (by omega)
theorem nI_eq32 {a b : Nat} (ha : a < 2 ^ 32) (hb : b < 2 ^ 32) : nI a = nI b ↔ a = b := by
  constructor
  · intro z
    have := congrArg (fun x : Int32 => x.toBitVec.toNat) z
    rw [pk_tn ha, pk_tn hb] at this
    exact this
  · intro z; rw [z]
theorem un_J8_off {told go ln sm rw_ : Nat → Int32} {ni p a m : Int32} (ha : ¬ a = 0) : g_Mo_unpack_J8 ni p a m told go ln sm rw_ = some (-10 - a, p, a, m, told, go, ln, sm, rw_) := by
  rw [g_Mo_unpack_J8, if_neg ha, g_Mo_unpack_J9, if_neg ha]
theorem un_L2_off {g told go ln sm rw_ : Nat → Int32} {n N : Nat} {p a m : Int32} (ha : ¬ a = 0) (hN : 100000 ≤ N) : ∀ (d i M : Nat) (x : Int64), i + d = 4 → d < M → g_Mo_unpack_L2 N (nI n) 8192 g 9000 M x (nI i) p a m told go ln sm rw_ = some (-10 - a, p, a, m, told, go, ln, sm, rw_) := by
  intro d
  induction d with
  | zero =>
    intro i M x hi hM
    obtain ⟨k, rfl⟩ := succ_of hM
    rw [g_Mo_unpack_L2, if_pos (show (4 : Int32) ≤ nI i from nI_le (a := 4) (by omega) (by omega)), if_neg ha, un_J8_off ha]
  | succ d ih =>
    intro i M x hi hM
    obtain ⟨k, rfl⟩ := succ_of hM
    rw [g_Mo_unpack_L2, if_neg (show ¬ (4 : Int32) ≤ nI i from nI_ge (b := 4) (by omega) (by omega)), z_8, number_off ha hN (by decide), Option.bind_some]
    dsimp only
    rw [nI_1]
    exact ih (i + 1) k _ (by omega) (by omega)
def unA (e m : Nat) : Int32 := if e = 0 then nI m else -10 - nI e
theorem chk_loop {f g fo go told ln sm rw_ : Nat → Int32} {n N m : Nat} (hb : rb f g n) (hn : n ≤ 8192) (hN : 100000 ≤ N) (hm : m ≤ 8192) (ho : rb fo go m) : ∀ (d i p w M M' : Nat), i + d = 4 → d < M → d < M' → p ≤ 8 * n → w < 256 ^ i →
    ∃ (e p' : Nat), e < 13 ∧ p' ≤ 8 * n ∧ g_Unpacker_readCheck_L1 N (nI n) (nI m) 9000 fo 9000 f M (nI w) (nI i) (nI p) = some (nI e, nI p') ∧ g_Mo_unpack_L2 N (nI n) 8192 g 9000 M' (lN w) (nI i) (nI p) 0 (nI m) told go ln sm rw_ = some (unA e m, nI p', nI e, nI m, told, go, ln, sm, rw_) := by
  intro d
  induction d with
  | zero =>
    intro i p w M M' hi hM hM' hp hw
    obtain ⟨k, rfl⟩ := succ_of hM
    obtain ⟨k', rfl⟩ := succ_of hM'
    have ei : i = 4 := by omega
    subst ei
    have hw' : w < 2 ^ 32 := hw
    have hv := adv_lt go m
    rw [g_Unpacker_readCheck_L1, if_pos (show (4 : Int32) ≤ nI 4 by decide), check_ok ho (by omega) hN, Option.bind_some, g_Mo_unpack_L2, if_pos (show (4 : Int32) ≤ nI 4 by decide), if_pos rfl, checkOf_ok ho (by omega) (by omega) hN, Option.bind_some]
    have q1 : (nI w = nI (adv go m)) ↔ w = adv go m := nI_eq32 hw' hv
    have q2 : (lg_cmp (lN w) (lN (adv go m)) = 0) ↔ w = adv go m := by rw [lg_cmp_eq, pk_lEQ (by omega) (by omega)]
    by_cases c : w = adv go m
    · rw [if_pos (q1.mpr c), if_pos (q2.mpr c), g_Row_bitsLeft_0, Option.bind_some, g_Mo_unpack_J8, if_pos rfl, z_8, pk_mul, pk_sub hp]
      by_cases c2 : p = 8 * n
      · refine ⟨0, p, by decide, hp, ?_, ?_⟩
        · rw [if_pos (by rw [c2, Nat.sub_self]; decide)]; rfl
        · rw [if_pos (by rw [c2]), g_Mo_unpack_J9, if_pos rfl]; rfl
      · refine ⟨12, p, by decide, hp, ?_, ?_⟩
        · rw [if_neg (nI_nle (by omega) (by omega))]; rfl
        · rw [if_neg (by rw [nI_eq (by omega) (by omega)]; exact c2)]
          show g_Mo_unpack_J9 (nI p) 12 (nI m) told go ln sm rw_ = _
          rw [g_Mo_unpack_J9, if_neg (by decide)]; rfl
    · rw [if_neg (fun z => c (q1.mp z)), if_neg (fun z => c (q2.mp z))]
      refine ⟨11, p, by decide, hp, rfl, ?_⟩
      show g_Mo_unpack_J8 (nI n) (nI p) 11 (nI m) told go ln sm rw_ = _
      rw [un_J8_off (by decide)]; rfl
  | succ d ih =>
    intro i p w M M' hi hM hM' hp hw
    obtain ⟨k, rfl⟩ := succ_of hM
    obtain ⟨k', rfl⟩ := succ_of hM'
    rw [g_Unpacker_readCheck_L1, if_neg (show ¬ (4 : Int32) ≤ nI i from nI_ge (b := 4) (by omega) (by omega)), g_Mo_unpack_L2, if_neg (show ¬ (4 : Int32) ≤ nI i from nI_ge (b := 4) (by omega) (by omega)), z_8]
    have hw' : w < 256 ^ 3 := Nat.lt_of_lt_of_le hw (Nat.pow_le_pow_right (by decide) (by omega))
    by_cases c1 : p + 8 ≤ 8 * n
    · rw [nextNumber_in (N := N) hb (show n ≤ 9000 by omega) hN (show 8 ≤ 16 by decide) c1, number_in (N := N) hb hn hN (show 8 ≤ 16 by decide) c1, Option.bind_some, Option.bind_some]
      dsimp only
      have hv := numOf_lt g p 8
      generalize numOf g p 8 = v at hv
      rw [if_pos (nI_pos' (by omega)), nI_1, pk_shlN (nI 8 &&& 31) 8 (by decide) (by omega), nI_or, or_hi 8 hv, l_256, nI_l (by omega), lN_mul, lN_add, Nat.mul_comm 256 w]
      refine ih (i + 1) (p + 8) (w * 256 + v) k k' (by omega) (by omega) (by omega) c1 ?_
      rw [Nat.pow_succ]
      have : v < 256 := hv
      omega
    · rw [nextNumber_out (f := f) (N := N) (show n ≤ 9000 by omega) (show 8 ≤ 16 by decide) hp (by omega), number_short (N := N) hb hn hN (show 8 ≤ 16 by decide) hp (by omega), Option.bind_some, Option.bind_some]
      dsimp only
      rw [if_neg (by decide), nI_1, un_L2_off (show ¬ (2 : Int32) = 0 by decide) hN d (i + 1) k' _ (by omega) (by omega)]
      exact ⟨2, 8 * n, by decide, Nat.le_refl _, rfl, rfl⟩
/-- what both do behind the last block -/
theorem sim_tail {f g fo go told fl lc ls c1 y1 c2 y2 sm ln rw_ : Nat → Int32} {n N p m e : Nat} {vp bl ma la F lk ll k1 t1 k2 t2 br : Int32} (hb : rb f g n) (hn : n ≤ 8192) (hN : 100000 ≤ N) (hp : p ≤ 8 * n) (hm : m ≤ 8192) (ho : rb fo go m) (he : e < 13) :
    ∃ (e' p' : Nat), e' < 13 ∧ p' ≤ 8 * n ∧ g_Unpacker_run_J1 N (nI n) 9000 f 9000 (nI e) (nI p) (nI m) vp bl ma la F fl lc lk ll ls c1 k1 t1 y1 c2 k2 t2 y2 fo br = some (nI e', nI p', nI m, vp, bl, ma, la, F, fl, lc, lk, ll, ls, c1, k1, t1, y1, c2, k2, t2, y2, fo, nI p') ∧
      g_Mo_unpack_J7 N (nI n) 8192 g 9000 (nI p) (nI e) (nI m) told go ln sm rw_ = some (unA e' m, nI p', nI e', nI m, told, go, ln, sm, rw_) := by
  rw [g_Unpacker_run_J1, g_Mo_unpack_J7]
  by_cases c : e = 0
  · subst c
    rw [if_pos (show nI 0 = 0 from rfl), if_pos (show nI 0 = 0 from rfl), g_Unpacker_readCheck_0, skip_to, Option.bind_some]
    have t := toByte_in hb hn hN hp
    have t' : g_Mo_toByte_L1 (nI n) 8192 g N (nI 0) (nI p) = some (0, nI ((p + 7) / 8 * 8)) := t
    rw [t', Option.bind_some]
    dsimp only
    obtain ⟨e', p', w1, w2, w3, w4⟩ := chk_loop (told := told) (ln := ln) (sm := sm) (rw_ := rw_) hb hn hN hm ho 4 0 ((p + 7) / 8 * 8) 0 N N (by omega) (by omega) (by omega) (by omega) (by decide)
    refine ⟨e', p', w1, w2, ?_, w4⟩
    have w3' : g_Unpacker_readCheck_L1 N (nI n) (nI m) 9000 fo 9000 f N 0 0 (nI ((p + 7) / 8 * 8)) = some (nI e', nI p') := w3
    rw [w3', Option.bind_some, g_Unpacker_run_J2]
  · have z : ¬ nI e = 0 := nI_ne0 (by omega) (by omega)
    rw [if_neg z, if_neg z]
    refine ⟨e, p, he, hp, rfl, ?_⟩
    have := un_L2_off (g := g) (n := n) (told := told) (go := go) (ln := ln) (sm := sm) (rw_ := rw_) (p := nI p) (m := nI m) z hN 4 0 N 0 (by omega) (by omega)
    unfold unA
    rw [if_neg c]
    exact this
