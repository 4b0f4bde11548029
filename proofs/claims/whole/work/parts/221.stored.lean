theorem and_m8 {a : Nat} : nI a &&& (-8) = nI (a / 8 * 8) := by
  apply b_ext
  intro i hi
  have m : ∀ i, i < 32 → bt (-8) i = decide (3 ≤ i) := by decide +kernel
  rw [b_and, m i hi]
  show ((BitVec.ofNat 32 a).getLsbD i && decide (3 ≤ i)) = (BitVec.ofNat 32 (a / 8 * 8)).getLsbD i
  rw [BitVec.getLsbD_ofNat, BitVec.getLsbD_ofNat]
  have e : (a / 8 * 8).testBit i = (decide (3 ≤ i) && a.testBit i) := by
    show (a / 2 ^ 3 * 2 ^ 3).testBit i = _
    rw [Nat.testBit_mul_two_pow, Nat.testBit_div_two_pow]
    by_cases q : 3 ≤ i
    · rw [show i - 3 + 3 = i by omega]
    · simp [q]
  rw [e]
  cases decide (i < 32) <;> cases a.testBit i <;> cases decide (3 ≤ i) <;> rfl
theorem skip_to {p : Nat} : g_Row_skipToByte_0 (nI p) = some (nI ((p + 7) / 8 * 8)) := by
  rw [g_Row_skipToByte_0, z_7, nI_add, and_m8]
theorem toByte_loop {f g : Nat → Int32} {n : Nat} (h : rb f g n) (hn : n ≤ 8192) : ∀ (d p M : Nat), p + d = (p + 7) / 8 * 8 → p ≤ 8 * n → d < M → g_Mo_toByte_L1 (nI n) 8192 g M 0 (nI p) = some (0, nI ((p + 7) / 8 * 8)) := by
  intro d
  induction d with
  | zero =>
    intro p M hd hp hM
    obtain ⟨m, rfl⟩ := succ_of hM
    rw [g_Mo_toByte_L1, nI_rem8 (by omega), if_pos (by rw [show p % 8 = 0 by omega]; rfl), ← hd, Nat.add_zero]
  | succ d ih =>
    intro p M hd hp hM
    obtain ⟨m, rfl⟩ := succ_of hM
    have e : (p + 1 + 7) / 8 * 8 = (p + 7) / 8 * 8 := by omega
    rw [g_Mo_toByte_L1, nI_rem8 (by omega), if_neg (by rw [z_0, nI_eq (by omega) (by decide)]; omega), bit_in h hn (by omega)]
    show g_Mo_toByte_L1 (nI n) 8192 g m 0 (nI (p + 1)) = _
    rw [← e]
    exact ih (p + 1) m (by omega) (by omega) (by omega)
theorem toByte_in {f g : Nat → Int32} {n p N : Nat} (h : rb f g n) (hn : n ≤ 8192) (hN : 100000 ≤ N) (hp : p ≤ 8 * n) : g_Mo_toByte_L1 (nI n) 8192 g N 0 (nI p) = some (0, nI ((p + 7) / 8 * 8)) := toByte_loop h hn ((p + 7) / 8 * 8 - p) p N (by omega) hp (by omega)
theorem make_in {go : Nat → Int32} {m : Nat} {v : Int32} (hm : m < 8192) : g_Mo_make_0 9000 v 0 go (nI m) = some (0, upd go m v, nI (m + 1)) := by
  rw [g_Mo_make_0, if_pos rfl, if_neg (by rw [z_8192, nI_eq (by omega) (by omega)]; omega), g_Mo_make_J1, if_pos rfl]
  simp (disch := omega) only [z_0, nI_ltI, nI_clamp, if_neg, nI_1]
theorem make_full {go : Nat → Int32} {v : Int32} : g_Mo_make_0 9000 v 0 go (nI 8192) = some (10, go, nI 8192) := by
  rw [g_Mo_make_0, if_pos rfl, if_pos (show nI 8192 = 8192 from rfl)]
  rfl
theorem make_off {go : Nat → Int32} {v a m : Int32} (ha : ¬ a = 0) : g_Mo_make_0 9000 v a go m = some (a, go, m) := by
  rw [g_Mo_make_0, if_neg ha, g_Mo_make_J1, if_neg ha]
theorem stored_off {g go : Nat → Int32} {n N M : Nat} {a c j p m : Int32} (ha : ¬ a = 0) (hM : 0 < M) : g_Mo_readStored_L1 N (nI n) 8192 g 9000 M c j a p go m = some (a, p, go, m) := by
  obtain ⟨k, rfl⟩ := succ_of hM
  rw [g_Mo_readStored_L1, if_neg ha]
  by_cases q : c ≤ j
  · rw [if_pos q]
  · rw [if_neg q]
theorem stored_loop {f g : Nat → Int32} {n N c : Nat} (h : rb f g n) (hn : n ≤ 8192) (hN : 100000 ≤ N) (hc : c < 65536) : ∀ (d j p m : Nat) (fo go : Nat → Int32) (M M' : Nat), j + d = c → d < M → d + 1 < M' → p ≤ 8 * n → m ≤ 8192 → rb fo go m →
    ∃ (a p' m' : Nat) (fo' go' : Nat → Int32), a < 13 ∧ (p ≤ p' ∧ p' ≤ 8 * n) ∧ m' ≤ 8192 ∧ rb fo' go' m' ∧ g_Unpacker_readStored_L1 N (nI n) 9000 f 9000 M (nI c) (nI j) (nI p) fo (nI m) = some (nI a, nI p', fo', nI m') ∧ g_Mo_readStored_L1 N (nI n) 8192 g 9000 M' (nI c) (nI j) 0 (nI p) go (nI m) = some (nI a, nI p', go', nI m') := by
  intro d
  induction d with
  | zero =>
    intro j p m fo go M M' hj hM hM' hp hm ho
    obtain ⟨k, rfl⟩ := succ_of hM
    obtain ⟨k', rfl⟩ := succ_of hM'
    refine ⟨0, p, m, fo, go, by decide, ⟨Nat.le_refl _, hp⟩, hm, ho, ?_, ?_⟩
    · rw [g_Unpacker_readStored_L1, if_pos (nI_le (by omega) (by omega))]; rfl
    · rw [g_Mo_readStored_L1, if_pos (nI_le (by omega) (by omega))]; rfl
  | succ d ih =>
    intro j p m fo go M M' hj hM hM' hp hm ho
    obtain ⟨k, rfl⟩ := succ_of hM
    obtain ⟨k', rfl⟩ := succ_of hM'
    have b1 : ¬ nI c ≤ nI j := nI_ge (by omega) (by omega)
    by_cases c1 : p + 8 ≤ 8 * n
    · have hv := numOf_lt g p 8
      have e1 := nextNumber_in (N := N) h (by omega) hN (show 8 ≤ 16 by decide) c1
      have e2 := number_in (N := N) h hn hN (show 8 ≤ 16 by decide) c1
      by_cases c2 : m < 8192
      · obtain ⟨a, p', m', fo', go', q1, q2, q3, q4, q5, q6⟩ := ih (j + 1) (p + 8) (m + 1) (upd fo m (sb_b (numOf g p 8))) (upd go m (nI (numOf g p 8))) k k' (by omega) (by omega) (by omega) c1 (by omega) (rb_add ho hv rfl rfl)
        refine ⟨a, p', m', fo', go', q1, ⟨by omega, q2.2⟩, q3, q4, ?_, ?_⟩
        · rw [g_Unpacker_readStored_L1, if_neg b1, z_8, e1, Option.bind_some]
          dsimp only
          rw [if_pos (nI_pos' (by omega)), Row_add_in c2, Option.bind_some]
          dsimp only
          rw [if_neg (show ¬ (1 : Int32) = 0 by decide), nI_1]
          exact q5
        · rw [g_Mo_readStored_L1, if_neg b1, if_pos rfl, z_8, e2, Option.bind_some]
          dsimp only
          rw [make_in c2, Option.bind_some, nI_1]
          exact q6
      · have e3 : m = 8192 := by omega
        subst e3
        refine ⟨10, p + 8, 8192, fo, go, by decide, ⟨by omega, c1⟩, Nat.le_refl _, ho, ?_, ?_⟩
        · rw [g_Unpacker_readStored_L1, if_neg b1, z_8, e1, Option.bind_some]
          dsimp only
          rw [if_pos (nI_pos' (by omega)), Row_add_out]
          rfl
        · rw [g_Mo_readStored_L1, if_neg b1, if_pos rfl, z_8, e2, Option.bind_some]
          dsimp only
          rw [make_full, Option.bind_some]
          dsimp only
          exact stored_off (by decide) (by omega)
    · have e1 := nextNumber_out (f := f) (N := N) (show n ≤ 9000 by omega) (show 8 ≤ 16 by decide) hp (by omega)
      have e2 := number_short (N := N) h hn hN (show 8 ≤ 16 by decide) hp (by omega)
      refine ⟨2, 8 * n, m, fo, go, by decide, ⟨hp, Nat.le_refl _⟩, hm, ho, ?_, ?_⟩
      · rw [g_Unpacker_readStored_L1, if_neg b1, z_8, e1]
        rfl
      · rw [g_Mo_readStored_L1, if_neg b1, if_pos rfl, z_8, e2, Option.bind_some]
        dsimp only
        rw [make_off (by decide), Option.bind_some]
        dsimp only
        exact stored_off (by decide) (by omega)
theorem sim_stored {f g fo go : Nat → Int32} {n N p m : Nat} (h : rb f g n) (hn : n ≤ 8192) (hN : 100000 ≤ N) (hp : p ≤ 8 * n) (hm : m ≤ 8192) (ho : rb fo go m) :
    ∃ (a p' m' : Nat) (fo' go' : Nat → Int32), a < 13 ∧ (p ≤ p' ∧ p' ≤ 8 * n) ∧ m' ≤ 8192 ∧ rb fo' go' m' ∧ g_Unpacker_readStored_0 N (nI n) 9000 f 9000 (nI p) fo (nI m) = some (nI a, nI p', fo', nI m') ∧ g_Mo_readStored_0 N (nI n) 8192 g 9000 0 (nI p) go (nI m) = some (nI a, nI p', go', nI m') := by
  rw [g_Unpacker_readStored_0, g_Mo_readStored_0, skip_to, toByte_in h hn hN hp, Option.bind_some, Option.bind_some]
  have hp' : (p + 7) / 8 * 8 ≤ 8 * n := by omega
  have hpq : p ≤ (p + 7) / 8 * 8 := by omega
  generalize (p + 7) / 8 * 8 = p1 at hp' hpq ⊢
  dsimp only
  rw [z_16]
  by_cases c1 : p1 + 16 ≤ 8 * n
  · rw [nextNumber_in (N := N) h (by omega) hN (show 16 ≤ 16 by decide) c1, number_in (N := N) h hn hN (show 16 ≤ 16 by decide) c1, Option.bind_some, Option.bind_some]
    dsimp only
    have hv := numOf_lt g p1 16
    by_cases c2 : p1 + 16 + 16 ≤ 8 * n
    · rw [nextNumber_in (N := N) h (by omega) hN (show 16 ≤ 16 by decide) c2, number_in (N := N) h hn hN (show 16 ≤ 16 by decide) c2, Option.bind_some, Option.bind_some]
      dsimp only
      have hw := numOf_lt g (p1 + 16) 16
      rw [if_neg (nI_pos (by omega)), if_pos (nI_pos' (by omega)), if_pos rfl]
      by_cases c3 : nI (numOf g (p1 + 16) 16) = 65535 - nI (numOf g p1 16)
      · rw [if_pos c3, if_pos c3]
        obtain ⟨a, p', m', fo', go', q1, q2, q3⟩ := stored_loop (c := numOf g p1 16) h hn hN (by omega) (numOf g p1 16) 0 (p1 + 16 + 16) m fo go N N (by omega) (by omega) (by omega) c2 hm ho
        exact ⟨a, p', m', fo', go', q1, ⟨by omega, q2.2⟩, q3⟩
      · rw [if_neg c3, if_neg c3]
        refine ⟨4, p1 + 16 + 16, m, fo, go, by decide, ⟨by omega, c2⟩, hm, ho, rfl, ?_⟩
        show g_Mo_readStored_L1 N (nI n) 8192 g 9000 N _ _ 4 _ _ _ = _
        exact stored_off (by decide) (by omega)
    · rw [nextNumber_out (f := f) (N := N) (show n ≤ 9000 by omega) (show 16 ≤ 16 by decide) c1 (by omega), number_short (N := N) h hn hN (show 16 ≤ 16 by decide) c1 (by omega), Option.bind_some, Option.bind_some]
      dsimp only
      rw [if_neg (nI_pos (by omega)), if_neg (by decide), if_neg (by decide)]
      exact ⟨2, 8 * n, m, fo, go, by decide, ⟨hp, Nat.le_refl _⟩, hm, ho, rfl, stored_off (by decide) (by omega)⟩
  · rw [nextNumber_out (f := f) (N := N) (show n ≤ 9000 by omega) (show 16 ≤ 16 by decide) hp' (by omega), number_short (N := N) h hn hN (show 16 ≤ 16 by decide) hp' (by omega), Option.bind_some, Option.bind_some]
    dsimp only
    rw [nextNumber_out (f := f) (N := N) (show n ≤ 9000 by omega) (show 16 ≤ 16 by decide) (Nat.le_refl _) (by omega), number_off (by decide) hN (by decide), Option.bind_some, Option.bind_some]
    dsimp only
    rw [if_pos (by decide), if_neg (by decide)]
    exact ⟨2, 8 * n, m, fo, go, by decide, ⟨hp, Nat.le_refl _⟩, hm, ho, rfl, stored_off (by decide) (by omega)⟩
