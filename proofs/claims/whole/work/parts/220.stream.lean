/-- the bits of the reference's row of bytes -/
def bitOf (g : Nat → Int32) (p : Nat) : Nat := (g (p / 8)).toNatClampNeg / 2 ^ (p % 8) % 2
def numOf (g : Nat → Int32) (p : Nat) : Nat → Nat
  | 0 => 0
  | k + 1 => numOf g p k + bitOf g (p + k) * 2 ^ k
theorem bitOf_lt (g : Nat → Int32) (p : Nat) : bitOf g p < 2 := Nat.mod_lt _ (by decide)
theorem numOf_lt (g : Nat → Int32) (p : Nat) : ∀ k, numOf g p k < 2 ^ k := by
  intro k
  induction k with
  | zero => exact Nat.one_pos
  | succ k ih =>
    have h := bitOf_lt g (p + k)
    have e : 2 ^ (k + 1) = 2 ^ k * 2 := Nat.pow_succ 2 k
    show numOf g p k + bitOf g (p + k) * 2 ^ k < 2 ^ (k + 1)
    rcases (show bitOf g (p + k) = 0 ∨ bitOf g (p + k) = 1 by omega) with q | q <;> rw [q] <;> omega
theorem bit_cls : ∀ b, b < 256 → ∀ r, r < 8 → (sb_b b >>> (nI r &&& 31)) &&& 1 = nI (b / 2 ^ r % 2) := by decide +kernel
theorem bit_ref : ∀ b, b < 256 → ∀ r, r < 8 → (nI b >>> (nI r &&& 31)) &&& 1 = nI (b / 2 ^ r % 2) := by decide +kernel
theorem shr3 {p : Nat} (h : p < 2 ^ 31) : nI p >>> ((3 : Int32) &&& 31) = nI (p / 8) := pk_shrN h _ 3 (by decide)
theorem and7 {p : Nat} (h : p < 2 ^ 31) : nI p &&& 7 = nI (p % 8) := pk_andN (Nat.lt_of_lt_of_le h (by decide)) 3 (by decide)
theorem nextBit_in {f g : Nat → Int32} {n p : Nat} (h : rb f g n) (hn : n ≤ 9000) (hp : p < 8 * n) : g_Row_nextBit_0 (nI n) 9000 f (nI p) = some (nI (bitOf g p), nI (p + 1)) := by
  obtain ⟨b, hb, e1, e2⟩ := h (p / 8) (by omega)
  have hr : p % 8 < 8 := Nat.mod_lt _ (by decide)
  rw [g_Row_nextBit_0, shr3 (by omega), and7 (by omega)]
  simp (disch := omega) only [z_0, nI_ltI, nI_clamp, if_neg, if_pos, nI_1, e2]
  rw [bit_cls b hb _ hr]
  unfold bitOf
  rw [e1, nI_clamp (by omega)]
theorem nextBit_out {f : Nat → Int32} {n p : Nat} (hn : n ≤ 9000) (hp : p = 8 * n) : g_Row_nextBit_0 (nI n) 9000 f (nI p) = some (-2, nI p) := by
  rw [g_Row_nextBit_0, shr3 (by omega)]
  simp (disch := omega) only [z_0, nI_ltI, if_neg]
theorem nI_rem8 {p : Nat} (h : p < 2 ^ 31) : nI p - nI p / 8 * 8 = nI (p % 8) := pk_rem (d := 8) h (by decide) (by decide)
theorem nI_div8 {p : Nat} (h : p < 2 ^ 31) : nI p / 8 = nI (p / 8) := pk_div (d := 8) h (by decide) (by decide)
theorem bit_in {f g : Nat → Int32} {n p : Nat} (h : rb f g n) (hn : n ≤ 8192) (hp : p < 8 * n) : g_Mo_bit_0 (nI n) 8192 g 0 (nI p) = some (nI (bitOf g p), 0, nI (p + 1)) := by
  obtain ⟨b, hb, e1, e2⟩ := h (p / 8) (by omega)
  have hr : p % 8 < 8 := Nat.mod_lt _ (by decide)
  rw [g_Mo_bit_0, z_8, pk_mul, if_pos (nI_lt hp (by omega)), g_Mo_bit_J1, if_pos rfl, nI_1, nI_pred]
  rw [nI_rem8 (by omega), nI_div8 (by omega)]
  simp (disch := omega) only [z_0, nI_ltI, nI_clamp, if_neg, e1]
  rw [bit_ref b hb _ hr]
  unfold bitOf
  rw [e1, nI_clamp (by omega)]
theorem bit_out {g : Nat → Int32} {n p : Nat} (hn : n ≤ 8192) (hp : p = 8 * n) : g_Mo_bit_0 (nI n) 8192 g 0 (nI p) = some (0, 2, nI p) := by
  rw [g_Mo_bit_0, z_8, pk_mul, if_neg (nI_nlt (by omega) (by omega))]
  rfl
theorem bit_off {g : Nat → Int32} {n : Nat} {a p : Int32} (ha : ¬ a = 0) : g_Mo_bit_0 (nI n) 8192 g a p = some (0, a, p) := by
  rw [g_Mo_bit_0]
  by_cases c : p < 8 * nI n
  · rw [if_pos c, g_Mo_bit_J1, if_neg ha]
  · rw [if_neg c, g_Mo_blame_0, if_neg ha]
    show g_Mo_bit_J1 8192 g a p = _
    rw [g_Mo_bit_J1, if_neg ha]
theorem nI_or (a b : Nat) : nI a ||| nI b = nI (a ||| b) := by
  apply Int32.toBitVec_inj.mp
  rw [Int32.toBitVec_or]
  show BitVec.ofNat 32 a ||| BitVec.ofNat 32 b = BitVec.ofNat 32 (a ||| b)
  apply BitVec.eq_of_toNat_eq
  simp [BitVec.toNat_or, Nat.or_mod_two_pow]
theorem shl_bit {b j : Nat} (hb : b < 2) (hj : j < 31) : nI b <<< (nI j &&& 31) = nI (b * 2 ^ j) := pk_shlN _ j (s_l j (by omega)) (by
  have e : 2 ^ j < 2 ^ 31 := Nat.pow_lt_pow_right (by decide) hj
  rcases (show b = 0 ∨ b = 1 by omega) with q | q <;> rw [q] <;> omega)
theorem or_bit {v b j : Nat} (hv : v < 2 ^ j) (hb : b < 2) (hj : j < 31) : nI v ||| (nI b <<< (nI j &&& 31)) = nI (v + b * 2 ^ j) := by
  rw [shl_bit hb hj, nI_or]
  congr 1
  have e := Nat.two_pow_add_eq_or_of_lt hv b
  rw [Nat.mul_comm b, Nat.or_comm, ← e, Nat.add_comm]
theorem nextNumber_loop {f g : Nat → Int32} {n p k : Nat} (h : rb f g n) (hn : n ≤ 9000) (hk : k ≤ 16) (hp : p + k ≤ 8 * n) : ∀ (d j M : Nat), j + d = k → d < M → g_Row_nextNumber_L1 (nI n) 9000 f M (nI k) (nI (numOf g p j)) (nI j) (nI (p + j)) = some (nI (numOf g p k), nI (p + k)) := by
  intro d
  induction d with
  | zero =>
    intro j M hj hM
    obtain ⟨m, rfl⟩ := succ_of hM
    have e : j = k := by omega
    subst e
    simp (disch := omega) only [g_Row_nextNumber_L1, nI_leI, if_pos]
  | succ d ih =>
    intro j M hj hM
    obtain ⟨m, rfl⟩ := succ_of hM
    rw [g_Row_nextNumber_L1, if_neg (nI_ge (by omega) (by omega)), nextBit_in h hn (by omega)]
    show g_Row_nextNumber_L1 (nI n) 9000 f m (nI k) (nI (numOf g p j) ||| (nI (bitOf g (p + j)) <<< (nI j &&& 31))) (nI j + 1) (nI (p + j + 1)) = _
    rw [or_bit (numOf_lt g p j) (bitOf_lt g _) (by omega), nI_1]
    exact ih (j + 1) m (by omega) (by omega)
theorem nextNumber_in {f g : Nat → Int32} {n p k N : Nat} (h : rb f g n) (hn : n ≤ 9000) (hN : 100000 ≤ N) (hk : k ≤ 16) (hp : p + k ≤ 8 * n) : g_Row_nextNumber_0 N (nI n) 9000 f (nI k) (nI p) = some (nI (numOf g p k), nI (p + k)) := by
  rw [g_Row_nextNumber_0, g_Row_bitsLeft_0]
  simp (disch := omega) only [Option.bind_some, z_8, pk_mul, pk_sub, nI_leI, if_pos]
  exact nextNumber_loop h hn hk hp k 0 N (by omega) (by omega)
theorem nextNumber_out {f : Nat → Int32} {n p k N : Nat} (hn : n ≤ 9000) (hk : k ≤ 16) (hq : p ≤ 8 * n) (hp : 8 * n < p + k) : g_Row_nextNumber_0 N (nI n) 9000 f (nI k) (nI p) = some (-2, nI (8 * n)) := by
  rw [g_Row_nextNumber_0, g_Row_bitsLeft_0]
  simp (disch := omega) only [Option.bind_some, z_8, pk_mul, pk_sub, nI_leI, if_neg]
theorem number_loop {f g : Nat → Int32} {n p k : Nat} (h : rb f g n) (hn : n ≤ 8192) (hk : k ≤ 16) (hp : p + k ≤ 8 * n) : ∀ (d j M : Nat), j + d = k → d < M → g_Mo_number_L1 (nI n) 8192 g M (nI k) (nI (numOf g p j)) (nI j) 0 (nI (p + j)) = some (nI (numOf g p k), 0, nI (p + k)) := by
  intro d
  induction d with
  | zero =>
    intro j M hj hM
    obtain ⟨m, rfl⟩ := succ_of hM
    have e : j = k := by omega
    subst e
    simp (disch := omega) only [g_Mo_number_L1, nI_leI, if_pos]
  | succ d ih =>
    intro j M hj hM
    obtain ⟨m, rfl⟩ := succ_of hM
    rw [g_Mo_number_L1, if_neg (nI_ge (by omega) (by omega)), bit_in h hn (by omega)]
    show g_Mo_number_L1 (nI n) 8192 g m (nI k) (nI (numOf g p j) ||| (nI (bitOf g (p + j)) <<< (nI j &&& 31))) (nI j + 1) 0 (nI (p + j + 1)) = _
    rw [or_bit (numOf_lt g p j) (bitOf_lt g _) (by omega), nI_1]
    exact ih (j + 1) m (by omega) (by omega)
theorem number_in {f g : Nat → Int32} {n p k N : Nat} (h : rb f g n) (hn : n ≤ 8192) (hN : 100000 ≤ N) (hk : k ≤ 16) (hp : p + k ≤ 8 * n) : g_Mo_number_0 N (nI n) 8192 g (nI k) 0 (nI p) = some (nI (numOf g p k), 0, nI (p + k)) := by
  rw [g_Mo_number_0]
  exact number_loop h hn hk hp k 0 N (by omega) (by omega)
theorem zero_or (v : Int32) (j : Int32) : v ||| ((0 : Int32) <<< j) = v := by
  have e : (0 : Int32) <<< j = 0 := by
    apply Int32.toBitVec_inj.mp
    rw [Int32.toBitVec_shiftLeft]
    show BitVec.shiftLeft 0#32 _ = 0#32
    simp
  rw [e]
  apply Int32.toBitVec_inj.mp
  rw [Int32.toBitVec_or]
  show v.toBitVec ||| 0#32 = v.toBitVec
  simp
theorem number_offL {g : Nat → Int32} {n k : Nat} {a p : Int32} (ha : ¬ a = 0) (hk : k ≤ 16) : ∀ (d j M : Nat) (v : Int32), j + d = k → d < M → g_Mo_number_L1 (nI n) 8192 g M (nI k) v (nI j) a p = some (v, a, p) := by
  intro d
  induction d with
  | zero =>
    intro j M v hj hM
    obtain ⟨m, rfl⟩ := succ_of hM
    simp (disch := omega) only [g_Mo_number_L1, nI_leI, if_pos]
  | succ d ih =>
    intro j M v hj hM
    obtain ⟨m, rfl⟩ := succ_of hM
    rw [g_Mo_number_L1, if_neg (nI_ge (by omega) (by omega)), bit_off ha]
    show g_Mo_number_L1 (nI n) 8192 g m (nI k) (v ||| ((0 : Int32) <<< (nI j &&& 31))) (nI j + 1) a p = _
    rw [zero_or, nI_1]
    exact ih (j + 1) m v (by omega) (by omega)
theorem number_off {g : Nat → Int32} {n k N : Nat} {a p : Int32} (ha : ¬ a = 0) (hN : 100000 ≤ N) (hk : k ≤ 16) : g_Mo_number_0 N (nI n) 8192 g (nI k) a p = some (0, a, p) := by
  rw [g_Mo_number_0]
  exact number_offL ha hk k 0 N 0 (by omega) (by omega)
theorem number_shortL {f g : Nat → Int32} {n p k : Nat} (h : rb f g n) (hn : n ≤ 8192) (hk : k ≤ 16) (hq : p ≤ 8 * n) (hp : 8 * n < p + k) : ∀ (d j M : Nat), p + j + d = 8 * n → k < M + j → g_Mo_number_L1 (nI n) 8192 g M (nI k) (nI (numOf g p j)) (nI j) 0 (nI (p + j)) = some (nI (numOf g p (8 * n - p)), 2, nI (8 * n)) := by
  intro d
  induction d with
  | zero =>
    intro j M hj hM
    obtain ⟨m, rfl⟩ := succ_of (show 0 < M by omega)
    have e : p + j = 8 * n := by omega
    rw [g_Mo_number_L1, if_neg (nI_ge (by omega) (by omega)), bit_out hn e]
    show g_Mo_number_L1 (nI n) 8192 g m (nI k) (nI (numOf g p j) ||| ((0 : Int32) <<< (nI j &&& 31))) (nI j + 1) 2 (nI (p + j)) = _
    rw [zero_or, nI_1, number_offL (by decide) hk (k - (j + 1)) (j + 1) m _ (by omega) (by omega), show 8 * n - p = j by omega, e]
  | succ d ih =>
    intro j M hj hM
    obtain ⟨m, rfl⟩ := succ_of (show 0 < M by omega)
    rw [g_Mo_number_L1, if_neg (nI_ge (by omega) (by omega)), bit_in h hn (by omega)]
    show g_Mo_number_L1 (nI n) 8192 g m (nI k) (nI (numOf g p j) ||| (nI (bitOf g (p + j)) <<< (nI j &&& 31))) (nI j + 1) 0 (nI (p + j + 1)) = _
    rw [or_bit (numOf_lt g p j) (bitOf_lt g _) (by omega), nI_1]
    exact ih (j + 1) m (by omega) (by omega)
theorem number_short {f g : Nat → Int32} {n p k N : Nat} (h : rb f g n) (hn : n ≤ 8192) (hN : 100000 ≤ N) (hk : k ≤ 16) (hq : p ≤ 8 * n) (hp : 8 * n < p + k) : g_Mo_number_0 N (nI n) 8192 g (nI k) 0 (nI p) = some (nI (numOf g p (8 * n - p)), 2, nI (8 * n)) := by
  rw [g_Mo_number_0]
  exact number_shortL h hn hk hq hp (8 * n - p) 0 N (by omega) (by omega)
