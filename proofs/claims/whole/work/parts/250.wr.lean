/-- output rows after p bits -/
def wr (fo go : Nat → Int32) (p : Nat) : Prop := rb fo go ((p + 7) / 8)
theorem orc : ∀ b, b < 256 → ∀ r, r < 8 → ∀ v, v < 2 → vp_nar .byte ((sb_b b ||| (nI v <<< (nI r &&& 31)).toInt8.toInt32).toInt8.toInt32) = sb_b (b ||| v * 2 ^ r) ∧ nI b ||| (nI v <<< (nI r &&& 31)) = nI (b ||| v * 2 ^ r) ∧ b ||| v * 2 ^ r < 256 := by
  intro b hb r hr v hv
  have h1 : nI b ||| (nI v <<< (nI r &&& 31)) = nI (b ||| v * 2 ^ r) := by
    rw [shl_bit hv (by omega), nI_or]
  have hv2 : v * 2 ^ r < 256 := by
    have : 2 ^ r ≤ 128 := Nat.pow_le_pow_right (n := 2) (by decide) (show r ≤ 7 by omega)
    have : v * 2 ^ r ≤ 1 * 128 := Nat.mul_le_mul (by omega) this
    omega
  have hlt : b ||| v * 2 ^ r < 256 := Nat.or_lt_two_pow (n := 8) hb hv2
  refine ⟨?_, h1, hlt⟩
  rw [pk_vb]
  have h2 : (sb_b b ||| (nI v <<< (nI r &&& 31)).toInt8.toInt32).toInt8 = (nI b ||| (nI v <<< (nI r &&& 31))).toInt8 := by
    rw [shl_bit hv (by omega)]
    apply Int8.toBitVec_inj.mp
    rw [Int32.toBitVec_toInt8, Int32.toBitVec_toInt8, Int32.toBitVec_or, Int32.toBitVec_or]
    apply BitVec.eq_of_getLsbD_eq
    intro i hi
    rw [BitVec.getLsbD_signExtend, BitVec.getLsbD_signExtend, if_pos (by omega), if_pos (by omega), BitVec.getLsbD_or, BitVec.getLsbD_or]
    have k : ∀ x : Nat, (sb_b x).toBitVec.getLsbD i = (nI x).toBitVec.getLsbD i := by
      intro x
      unfold sb_b
      rw [Int8.toBitVec_toInt32, Int32.toBitVec_toInt8, BitVec.getLsbD_signExtend, if_pos (by omega), BitVec.getLsbD_signExtend, if_pos (by omega)]
      simp only [hi, decide_true, Bool.true_and]
      have : i < 32 := by omega
      simp [this]
    have k2 : ((nI (v * 2 ^ r)).toInt8.toInt32) = sb_b (v * 2 ^ r) := rfl
    rw [k2, k, k]
  rw [h2, h1]
  rfl
theorem put_bit {fo go : Nat → Int32} {p v : Nat} (h : wr fo go p) (hp : p < 72000) (hv : v < 2) : ∃ fo' go', wr fo' go' (p + 1) ∧
    (∀ (M : Nat) (x1 x2 x3 : Int32), ¬ x2 ≤ x3 → (x1 >>> (x3 &&& 31)) &&& 1 = nI v → g_Row_putNumber_L1 9000 (M + 1) x1 x2 x3 fo (nI ((p + 7) / 8)) (nI p) = g_Row_putNumber_L1 9000 M x1 x2 (x3 + 1) fo' (nI ((p + 1 + 7) / 8)) (nI (p + 1))) ∧
    g_Mo_writeBit_0 9000 (nI v) go (nI ((p + 7) / 8)) (nI p) = some (go', nI ((p + 1 + 7) / 8), nI (p + 1)) := by
  have hr : p % 8 < 8 := Nat.mod_lt _ (by decide)
  have n0 : ¬ nI (p / 8) < 0 := nI_pos (by omega)
  have n1 : nI (p / 8) < 9000 := nI_lt (b := 9000) (by omega) (by omega)
  have n2 : ¬ (nI (p / 8) < 0 ∨ 9000 ≤ (nI (p / 8)).toNatClampNeg) := nI_in (by omega) (by omega)
  by_cases c : p % 8 = 0
  · have e1 : (p + 7) / 8 = p / 8 := by omega
    have e2 : (p + 1 + 7) / 8 = p / 8 + 1 := by omega
    obtain ⟨o1, o2, o3⟩ := orc 0 (by decide) (p % 8) hr v hv
    refine ⟨upd (upd fo (p / 8) 0) (p / 8) (sb_b (0 ||| v * 2 ^ (p % 8))), upd (upd go (p / 8) 0) (p / 8) (nI (0 ||| v * 2 ^ (p % 8))), ?_, ?_, ?_⟩
    · intro i hi
      rw [e2] at hi
      by_cases z : i = p / 8
      · rw [z, pk_us, pk_us]
        exact ⟨_, o3, rfl, rfl⟩
      · rw [pk_un z, pk_un z, pk_un z, pk_un z]
        exact h i (by rw [e1]; omega)
    · intro M x1 x2 x3 hx hb
      rw [g_Row_putNumber_L1, if_neg hx, shr3 (by omega), and7 (by omega), if_neg n0, if_pos n1, if_pos (by rw [c]; rfl), if_neg n2, g_Row_putNumber_J1, if_neg n2, hb, nI_clamp (by omega), pk_us, and7 (by omega), nI_1, nI_1, e2]
      have o1' : vp_nar .byte ((vp_nar .byte 0 ||| (nI v <<< (nI (p % 8) &&& 31)).toInt8.toInt32).toInt8.toInt32) = sb_b (0 ||| v * 2 ^ (p % 8)) := o1
      rw [o1']
      rfl
    · rw [g_Mo_writeBit_0, nI_rem8 (by omega), if_pos (by rw [c]; rfl), e1, if_neg n2, nI_clamp (by omega), nI_1, g_Mo_writeBit_J1, nI_pred, if_neg n2, nI_clamp (by omega), pk_us, nI_rem8 (by omega), nI_1, e2]
      have o2' : (0 : Int32) ||| (nI v <<< (nI (p % 8) &&& 31)) = nI (0 ||| v * 2 ^ (p % 8)) := o2
      rw [o2']
  · have e1 : (p + 7) / 8 = p / 8 + 1 := by omega
    have e2 : (p + 1 + 7) / 8 = p / 8 + 1 := by omega
    obtain ⟨b, hb, eb1, eb2⟩ := h (p / 8) (by rw [e1]; omega)
    obtain ⟨o1, o2, o3⟩ := orc b hb (p % 8) hr v hv
    refine ⟨upd fo (p / 8) (sb_b (b ||| v * 2 ^ (p % 8))), upd go (p / 8) (nI (b ||| v * 2 ^ (p % 8))), ?_, ?_, ?_⟩
    · intro i hi
      rw [e2] at hi
      by_cases z : i = p / 8
      · rw [z, pk_us, pk_us]
        exact ⟨_, o3, rfl, rfl⟩
      · rw [pk_un z, pk_un z]
        exact h i (by rw [e1]; omega)
    · intro M x1 x2 x3 hx hbit
      rw [g_Row_putNumber_L1, if_neg hx, shr3 (by omega), and7 (by omega), if_neg n0, if_pos n1, if_neg (by rw [z_0, nI_eq (by omega) (by omega)]; exact c), g_Row_putNumber_J1, if_neg n2, hbit, nI_clamp (by omega), eb2, and7 (by omega), nI_1, e1, e2, o1]
    · rw [g_Mo_writeBit_0, nI_rem8 (by omega), if_neg (by rw [z_0, nI_eq (by omega) (by omega)]; exact c), e1, g_Mo_writeBit_J1, nI_pred, if_neg n2, nI_clamp (by omega), eb1, nI_rem8 (by omega), nI_1, e2, o2]
theorem bitv (x s : Int32) : ∃ v : Nat, v < 2 ∧ (x >>> s) &&& 1 = nI v := by
  obtain ⟨j, hj, e⟩ := pk_andE (x >>> s) (m := 1) 1 (by decide)
  exact ⟨j, hj, e⟩
/-- a number of k bits -/
theorem put_loop {k : Nat} {x y : Int32} (hk : k ≤ 31) (hxy : ∀ i, i < k → (x >>> (nI i &&& 31)) &&& 1 = (y >>> (nI i &&& 31)) &&& 1) : ∀ (d i p : Nat) (fo go : Nat → Int32) (M M' : Nat), i + d = k → d < M → d < M' → wr fo go p → p + d ≤ 72000 →
    ∃ fo' go', wr fo' go' (p + d) ∧ g_Row_putNumber_L1 9000 M x (nI k) (nI i) fo (nI ((p + 7) / 8)) (nI p) = some (fo', nI ((p + d + 7) / 8), nI (p + d)) ∧ g_Mo_writeNumber_L1 9000 M' y (nI k) (nI i) go (nI ((p + 7) / 8)) (nI p) = some (go', nI ((p + d + 7) / 8), nI (p + d)) := by
  intro d
  induction d with
  | zero =>
    intro i p fo go M M' hi hM hM' h hp
    obtain ⟨m, rfl⟩ := succ_of hM
    obtain ⟨m', rfl⟩ := succ_of hM'
    refine ⟨fo, go, h, ?_, ?_⟩
    · rw [g_Row_putNumber_L1, if_pos (nI_le (by omega) (by omega))]; rfl
    · rw [g_Mo_writeNumber_L1, if_pos (nI_le (by omega) (by omega))]; rfl
  | succ d ih =>
    intro i p fo go M M' hi hM hM' h hp
    obtain ⟨m, rfl⟩ := succ_of hM
    obtain ⟨m', rfl⟩ := succ_of hM'
    obtain ⟨v, hv, ev⟩ := bitv y (nI i &&& 31)
    obtain ⟨f1, g1, w1, w2, w3⟩ := put_bit h (by omega) hv
    obtain ⟨f2, g2, w4, w5, w6⟩ := ih (i + 1) (p + 1) f1 g1 m m' (by omega) (by omega) (by omega) w1 (by omega)
    rw [show p + (d + 1) = p + 1 + d by omega]
    refine ⟨f2, g2, w4, ?_, ?_⟩
    · rw [w2 m x (nI k) (nI i) (nI_ge (by omega) (by omega)) ((hxy i (by omega)).trans ev), nI_1]; exact w5
    · rw [g_Mo_writeNumber_L1, if_neg (nI_ge (by omega) (by omega)), ev, w3, Option.bind_some, nI_1]; exact w6
theorem sim_put {fo go : Nat → Int32} {p k N : Nat} {x y : Int32} (h : wr fo go p) (hk : k ≤ 31) (hp : p + k ≤ 72000) (hN : 100000 ≤ N) (hxy : ∀ i, i < k → (x >>> (nI i &&& 31)) &&& 1 = (y >>> (nI i &&& 31)) &&& 1) :
    ∃ fo' go', wr fo' go' (p + k) ∧ g_Row_putNumber_0 N 9000 x (nI k) fo (nI ((p + 7) / 8)) (nI p) = some (fo', nI ((p + k + 7) / 8), nI (p + k)) ∧ g_Mo_writeNumber_0 N 9000 y (nI k) go (nI ((p + 7) / 8)) (nI p) = some (go', nI ((p + k + 7) / 8), nI (p + k)) := by
  rw [g_Row_putNumber_0, g_Mo_writeNumber_0]
  exact put_loop hk hxy k 0 p fo go N N (by omega) (by omega) (by omega) h hp
/-- a code of k bits: the class puts x from its lowest bit on, the reference c from its highest -/
theorem code_loop {k : Nat} {x c : Int32} (hk : k ≤ 31) (hxc : ∀ i, i < k → (x >>> (nI i &&& 31)) &&& 1 = (c >>> (nI (k - 1 - i) &&& 31)) &&& 1) : ∀ (d i p : Nat) (fo go : Nat → Int32) (M M' : Nat), i + d = k → d < M → d < M' → wr fo go p → p + d ≤ 72000 →
    ∃ fo' go', wr fo' go' (p + d) ∧ g_Row_putNumber_L1 9000 M x (nI k) (nI i) fo (nI ((p + 7) / 8)) (nI p) = some (fo', nI ((p + d + 7) / 8), nI (p + d)) ∧ g_Mo_writeCode_L1 9000 M' c (nI d - 1) go (nI ((p + 7) / 8)) (nI p) = some (go', nI ((p + d + 7) / 8), nI (p + d)) := by
  intro d
  induction d with
  | zero =>
    intro i p fo go M M' hi hM hM' h hp
    obtain ⟨m, rfl⟩ := succ_of hM
    obtain ⟨m', rfl⟩ := succ_of hM'
    refine ⟨fo, go, h, ?_, ?_⟩
    · rw [g_Row_putNumber_L1, if_pos (nI_le (by omega) (by omega))]; rfl
    · rw [g_Mo_writeCode_L1, if_pos (by decide)]; rfl
  | succ d ih =>
    intro i p fo go M M' hi hM hM' h hp
    obtain ⟨m, rfl⟩ := succ_of hM
    obtain ⟨m', rfl⟩ := succ_of hM'
    obtain ⟨v, hv, ev⟩ := bitv c (nI d &&& 31)
    have ev' : (x >>> (nI i &&& 31)) &&& 1 = nI v := by rw [hxc i (by omega), show k - 1 - i = d by omega]; exact ev
    obtain ⟨f1, g1, w1, w2, w3⟩ := put_bit h (by omega) hv
    obtain ⟨f2, g2, w4, w5, w6⟩ := ih (i + 1) (p + 1) f1 g1 m m' (by omega) (by omega) (by omega) w1 (by omega)
    rw [show p + (d + 1) = p + 1 + d by omega]
    refine ⟨f2, g2, w4, ?_, ?_⟩
    · rw [w2 m x (nI k) (nI i) (nI_ge (by omega) (by omega)) ev', nI_1]; exact w5
    · rw [g_Mo_writeCode_L1, nI_pred, if_neg (nI_pos (by omega)), ev, w3, Option.bind_some]
      have e : nI d + (-1) = nI d - 1 := by
        cases d with
        | zero => decide
        | succ d => rw [pk_m1, nI_pred]
      rw [e]; exact w6
/-- to the next whole byte -/
theorem wr_pad {fo go : Nat → Int32} {p : Nat} (h : wr fo go p) : wr fo go ((p + 7) / 8 * 8) := by
  have e : ((p + 7) / 8 * 8 + 7) / 8 = (p + 7) / 8 := by omega
  unfold wr
  rw [e]
  exact h
theorem write0 {go : Nat → Int32} {fo : Nat → Int32} {p : Nat} (h : wr fo go p) (hp : p < 72000) (hr : ¬ p % 8 = 0) : g_Mo_writeBit_0 9000 0 go (nI ((p + 7) / 8)) (nI p) = some (go, nI ((p + 7) / 8), nI (p + 1)) := by
  have e1 : (p + 7) / 8 = p / 8 + 1 := by omega
  obtain ⟨b, hb, eb1, eb2⟩ := h (p / 8) (by rw [e1]; omega)
  rw [g_Mo_writeBit_0, nI_rem8 (by omega), if_neg (by rw [z_0, nI_eq (by omega) (by omega)]; exact hr), e1, g_Mo_writeBit_J1, nI_pred, if_neg (nI_in (by omega) (by omega)), nI_clamp (by omega), zero_or, nI_1]
  congr 2
  funext j
  by_cases z : j = p / 8
  · subst z; rw [pk_us]
  · rw [pk_un z]
