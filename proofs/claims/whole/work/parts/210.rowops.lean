theorem Row_add_in {x : Int32} {f : Nat → Int32} {n : Nat} (h : n < 8192) : g_Row_add_0 9000 x 8192 f (nI n) = some (1, upd f n x.toInt8.toInt32, nI (n + 1)) := by
  simp (disch := omega) only [g_Row_add_0, z_8192, z_9000, z_0, nI_leI, nI_ltI, nI_clamp, if_pos, if_neg, pk_vb, nI_1]
theorem Row_add_out {x : Int32} {f : Nat → Int32} : g_Row_add_0 9000 x 8192 f (nI 8192) = some (0, f, nI 8192) := by
  simp (disch := omega) only [g_Row_add_0, z_8192, z_9000, z_0, nI_leI, nI_ltI, nI_clamp, if_pos, if_neg, pk_vb, nI_1]
theorem feed_bits (x : Int64) (k : Nat) (hk : k < 8) : ((x >>> ((nI (8 * k)).toInt64 &&& 63)) &&& 255).toInt32 = ((x.toUInt64 >>> ((nI (8 * k)).toInt64.toUInt64 &&& Int64.toUInt64 63)).toInt64).toInt32 &&& 255 := by
  have hk8 : 8 * k < 64 := by omega
  have e1 : (x.toUInt64 >>> ((nI (8 * k)).toInt64.toUInt64 &&& Int64.toUInt64 63)).toInt64.toBitVec = x.toBitVec >>> (8 * k) := by
    rw [wb_cu (8 * k) hk8]
    apply BitVec.eq_of_toNat_eq
    show (x.toUInt64 >>> UInt64.ofNat (8 * k)).toNat = _
    have h1 : (UInt64.ofNat (8 * k)).toNat = 8 * k := by
      show (BitVec.ofNat 64 (8 * k)).toNat = 8 * k
      rw [BitVec.toNat_ofNat, Nat.mod_eq_of_lt (by omega)]
    rw [UInt64.toNat_shiftRight, h1, Nat.mod_eq_of_lt hk8, BitVec.toNat_ushiftRight]
    rfl
  have e2 : (x >>> ((nI (8 * k)).toInt64 &&& 63)).toBitVec = x.toBitVec.sshiftRight (8 * k) := by
    rw [Int64.toBitVec_shiftRight, wb_c (8 * k) hk8, wb_tb, wb_sm (8 * k) hk8]
    show x.toBitVec.sshiftRight (BitVec.ofNat 64 (8 * k)).toNat = _
    rw [BitVec.toNat_ofNat, Nat.mod_eq_of_lt (by omega)]
  have m1 : ∀ i, i < 32 → (255 : Int64).toBitVec.getLsbD i = decide (i < 8) := by decide
  have m2 : ∀ i, i < 32 → (255 : Int32).toBitVec.getLsbD i = decide (i < 8) := by decide
  apply Int32.toBitVec_inj.mp
  rw [Int32.toBitVec_and, Int64.toBitVec_toInt32, Int64.toBitVec_toInt32, Int64.toBitVec_and, e1, e2]
  apply BitVec.eq_of_getLsbD_eq
  intro i hi
  rw [BitVec.getLsbD_and, BitVec.getLsbD_signExtend, BitVec.getLsbD_signExtend, if_pos (by omega), if_pos (by omega), BitVec.getLsbD_and, m1 i hi, m2 i hi, BitVec.getLsbD_sshiftRight, BitVec.getLsbD_ushiftRight]
  by_cases h8 : i < 8
  · rw [if_pos (by omega)]
    simp [h8, hi, show i < 64 by omega]
  · simp [h8]
theorem feed_loop (x : Int64) (kk : Nat) (hk : kk ≤ 8) : ∀ (d j n : Nat) (f g : Nat → Int32) (M M' : Nat), j + d = kk → n + d ≤ 8192 → d < M → d < M' → rb f g n → ∃ f' g', g_Bp_feed_L1 9000 M x (nI kk) (nI j) f (nI n) = some (nI (n + d), f', nI (n + d)) ∧ g_Mo_feed_L1 8192 M' x (nI kk) (nI j) g (nI n) = some (nI (n + d), g', nI (n + d)) ∧ rb f' g' (n + d) := by
  intro d
  induction d with
  | zero =>
    intro j n f g M M' hj hn hM hM' h
    obtain ⟨m, rfl⟩ := succ_of hM
    obtain ⟨m', rfl⟩ := succ_of hM'
    refine ⟨f, g, ?_, ?_, h⟩
    · simp (disch := omega) only [g_Bp_feed_L1, nI_leI, if_pos, Nat.add_zero]
    · simp (disch := omega) only [g_Mo_feed_L1, nI_leI, if_pos, Nat.add_zero]
  | succ d ih =>
    intro j n f g M M' hj hn hM hM' h
    obtain ⟨m, rfl⟩ := succ_of hM
    obtain ⟨m', rfl⟩ := succ_of hM'
    obtain ⟨b, hb, h1, h2⟩ := lo8 (((x.toUInt64 >>> ((nI (8 * j)).toInt64.toUInt64 &&& Int64.toUInt64 63)).toInt64).toInt32)
    obtain ⟨f', g', e1, e2, h'⟩ := ih (j + 1) (n + 1) (upd f n (sb_b b)) (upd g n (nI b)) m m' (by omega) (by omega) (by omega) (by omega) (rb_add h hb rfl rfl)
    rw [show n + 1 + d = n + (d + 1) by omega] at e1 e2 h'
    refine ⟨f', g', ?_, ?_, h'⟩
    · simp (disch := omega) only [g_Bp_feed_L1, nI_leI, if_neg, z_8, pk_mul, Row_add_in, Option.bind_some, h2, nI_1]
      exact e1
    · simp (disch := omega) only [g_Mo_feed_L1, nI_leI, nI_ltI, nI_clamp, z_0, z_8, pk_mul, if_neg, nI_1]
      rw [feed_bits x j (by omega), h1]
      exact e2
theorem op_feed {f g : Nat → Int32} {n N : Nat} (hn : n ≤ 8192) (h : rb f g n) (hN : 100000 ≤ N) (x : Int64) (k : Int32) : ∃ r r', g_Bp_feed_0 N 9000 x k f (nI n) = some r ∧ g_Mo_feed_0 N 8192 x k g (nI n) = some r' ∧ r.1 = r'.1 ∧ ∃ m : Nat, m ≤ 8192 ∧ r.2.2 = nI m ∧ r'.2.2 = nI m ∧ rb r.2.1 r'.2.1 m := by
  by_cases c1 : k < 1
  · refine ⟨_, _, if_pos c1, if_pos c1, rfl, n, hn, rfl, rfl, h⟩
  · by_cases c2 : k ≤ 8
    · obtain ⟨j, -, hj, rfl⟩ := i32_in 1 8 (by decide) c1 c2
      by_cases c3 : n + j ≤ 8192
      · obtain ⟨f', g', e1, e2, h'⟩ := feed_loop x j hj j 0 n f g N N (by omega) c3 (by omega) (by omega) h
        refine ⟨(nI (n + j), f', nI (n + j)), (nI (n + j), g', nI (n + j)), ?_, ?_, rfl, n + j, c3, rfl, rfl, h'⟩
        · rw [g_Bp_feed_0, if_neg c1, if_pos c2]
          simp (disch := omega) only [z_8192, pk_sub, nI_leI, if_pos]
          exact e1
        · rw [g_Mo_feed_0, if_neg c1, if_pos c2]
          simp (disch := omega) only [z_8192, nI_add, nI_leI, if_pos]
          exact e2
      · refine ⟨(-3, f, nI n), (-3, g, nI n), ?_, ?_, rfl, n, hn, rfl, rfl, h⟩
        · rw [g_Bp_feed_0, if_neg c1, if_pos c2]
          simp (disch := omega) only [z_8192, pk_sub, nI_leI, if_neg]
        · rw [g_Mo_feed_0, if_neg c1, if_pos c2]
          simp (disch := omega) only [z_8192, nI_add, nI_leI, if_neg]
    · refine ⟨(-2, f, nI n), (-2, g, nI n), ?_, ?_, rfl, n, hn, rfl, rfl, h⟩
      · rw [g_Bp_feed_0, if_neg c1, if_neg c2]
      · rw [g_Mo_feed_0, if_neg c1, if_neg c2]
