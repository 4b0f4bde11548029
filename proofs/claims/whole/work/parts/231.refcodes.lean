/-- a row of the reference that holds lengths, from a place on -/
def mt (f : Nat → Int32) (from_ n : Nat) (len : Nat → Nat) : Prop := ∀ s, s < n → f (from_ + s) = nI (len s) ∧ len s ≤ 15
theorem pow15 {l : Nat} (h : l ≤ 15) : (1 : Int32) <<< ((15 - nI l) &&& 31) = nI (2 ^ (15 - l)) := by
  rw [z_15, pk_sub h]
  have e := pk_shlN (n := 1) (nI (15 - l) &&& 31) (15 - l) (s_l _ (by omega)) (by
    have := Nat.pow_lt_pow_right (a := 2) (by decide) (show 15 - l < 32 by omega)
    omega)
  rw [Nat.one_mul] at e
  exact e
theorem lw_bound {len : Nat → Nat} {k : Nat} : ∀ n, lw len k n ≤ n * 32768 := by
  intro n
  induction n with
  | zero => exact Nat.le_refl _
  | succ n ih =>
    show lw len k n + (if k < len n then 2 ^ (15 - len n) else 0) ≤ (n + 1) * 32768
    have hp : (if k < len n then 2 ^ (15 - len n) else 0) ≤ 2 ^ 15 := by
      split
      · exact Nat.pow_le_pow_right (by decide) (Nat.sub_le _ _)
      · exact Nat.zero_le _
    exact Nat.le_trans (Nat.add_le_add ih hp) (Nat.le_of_eq (Nat.succ_mul n 32768).symm)
theorem codesOf_loop {f : Nat → Int32} {len : Nat → Nat} {a n n0 : Nat} (h : mt f a n len) (ha : a + n ≤ n0) (hn0 : n0 ≤ 1000) : ∀ (d j M : Nat), j + d = n → d < M → g_Mo_codesOf_L1 n0 f M (nI a) (nI n) (nI (cg len 1 j)) (nI (a + j)) = some (nI (cg len 1 n)) := by
  intro d
  induction d with
  | zero =>
    intro j M hj hM
    obtain ⟨m, rfl⟩ := succ_of hM
    have e : j = n := by omega
    subst e
    simp (disch := omega) only [g_Mo_codesOf_L1, nI_add, nI_leI, if_pos]
  | succ d ih =>
    intro j M hj hM
    obtain ⟨m, rfl⟩ := succ_of hM
    obtain ⟨e1, e2⟩ := h j (by omega)
    have hb := cg_le len 1 j
    have e3 : cg len 1 (j + 1) = cg len 1 j + (if 1 ≤ len j then 1 else 0) := rfl
    have q := ih (j + 1) m (by omega) (by omega)
    rw [← Nat.add_assoc] at q
    simp (disch := omega) only [g_Mo_codesOf_L1, z_0, nI_add, nI_leI, nI_ltI, nI_clamp, if_neg, e1]
    by_cases c : len j ≤ 0
    · rw [if_pos c, nI_1]
      rw [e3, if_neg (by omega), Nat.add_zero] at q
      exact q
    · rw [if_neg c, nI_1, nI_1]
      rw [e3, if_pos (by omega)] at q
      exact q
theorem codesOf_ok {f : Nat → Int32} {len : Nat → Nat} {a n n0 N : Nat} (h : mt f a n len) (ha : a + n ≤ n0) (hn0 : n0 ≤ 1000) (hN : 100000 ≤ N) : g_Mo_codesOf_0 N n0 f (nI a) (nI n) = some (nI (cg len 1 n)) := codesOf_loop h ha hn0 n 0 N (by omega) (by omega)
theorem weightOf_loop {f : Nat → Int32} {len : Nat → Nat} {a n n0 : Nat} (h : mt f a n len) (ha : a + n ≤ n0) (hn0 : n0 ≤ 1000) : ∀ (d j M : Nat), j + d = n → d < M → g_Mo_weightOf_L1 n0 f M (nI a) (nI n) (nI (lw len 0 j)) (nI (a + j)) = some (nI (lw len 0 n)) := by
  intro d
  induction d with
  | zero =>
    intro j M hj hM
    obtain ⟨m, rfl⟩ := succ_of hM
    have e : j = n := by omega
    subst e
    simp (disch := omega) only [g_Mo_weightOf_L1, nI_add, nI_leI, if_pos]
  | succ d ih =>
    intro j M hj hM
    obtain ⟨m, rfl⟩ := succ_of hM
    obtain ⟨e1, e2⟩ := h j (by omega)
    have e3 : lw len 0 (j + 1) = lw len 0 j + (if 0 < len j then 2 ^ (15 - len j) else 0) := rfl
    have q := ih (j + 1) m (by omega) (by omega)
    rw [← Nat.add_assoc] at q
    simp (disch := omega) only [g_Mo_weightOf_L1, z_0, nI_add, nI_leI, nI_ltI, nI_clamp, if_neg, e1]
    by_cases c : len j ≤ 0
    · rw [if_pos c, nI_1]
      rw [e3, if_neg (by omega), Nat.add_zero] at q
      exact q
    · rw [if_neg c, nI_1, pow15 e2, nI_add]
      rw [e3, if_pos (by omega)] at q
      exact q
theorem weightOf_ok {f : Nat → Int32} {len : Nat → Nat} {a n n0 N : Nat} (h : mt f a n len) (ha : a + n ≤ n0) (hn0 : n0 ≤ 1000) (hN : 100000 ≤ N) : g_Mo_weightOf_0 N n0 f (nI a) (nI n) = some (nI (lw len 0 n)) := weightOf_loop h ha hn0 n 0 N (by omega) (by omega)
theorem areCodes_ok {f : Nat → Int32} {len : Nat → Nat} {a n n0 N : Nat} {z : Int32} (h : mt f a n len) (ha : a + n ≤ n0) (hn0 : n0 ≤ 1000) (hN : 100000 ≤ N) : g_Mo_areCodes_0 N n0 f (nI a) (nI n) z = some (if lw len 0 n = 32768 ∨ (cg len 1 n = 1 ∧ lw len 0 n = 16384) ∨ (cg len 1 n = 0 ∧ ¬ z = 0) then 1 else 0) := by
  have b1 := lw_bound (len := len) (k := 0) n
  have b2 := cg_le len 1 n
  rw [g_Mo_areCodes_0, codesOf_ok h ha hn0 hN, weightOf_ok h ha hn0 hN, Option.bind_some, Option.bind_some]
  simp (disch := omega) only [z_32768, z_16384, z_1, nI_eq, g_Mo_areCodes_J1]
  by_cases c1 : lw len 0 n = 32768
  · rw [if_pos c1, if_pos (Or.inl c1)]
  · rw [if_neg c1]
    by_cases c2 : cg len 1 n = 1
    · rw [if_pos c2]
      by_cases c3 : lw len 0 n = 16384
      · rw [if_pos c3, if_pos (Or.inr (Or.inl ⟨c2, c3⟩))]
      · rw [if_neg c3, if_neg (by rw [z_0, nI_eq (by omega) (by omega)]; omega), if_neg (by
          intro q
          rcases q with q | ⟨q, q'⟩ | ⟨q, q'⟩ <;> omega)]
    · rw [if_neg c2]
      by_cases c4 : cg len 1 n = 0
      · rw [if_pos (by rw [c4]; rfl)]
        by_cases c5 : z = 0
        · rw [if_pos c5, if_neg (by
            intro q
            rcases q with q | ⟨q, q'⟩ | ⟨q, q'⟩
            · exact c1 q
            · exact c2 q
            · exact q' c5)]
        · rw [if_neg c5, if_pos (Or.inr (Or.inr ⟨c4, c5⟩))]
      · rw [if_neg (by rw [z_0, nI_eq (by omega) (by omega)]; omega), if_neg (by
            intro q
            rcases q with q | ⟨q, q'⟩ | ⟨q, q'⟩ <;> omega)]
theorem begins_loop {f : Nat → Int32} {len : Nat → Nat} {a n n0 k r : Nat} (h : mt f a n len) (ha : a + n ≤ n0) (hn0 : n0 ≤ 1000) (h0 : k ≤ 15) (hr : r < 2 ^ k) : ∀ (d j M : Nat), j + d = n → d < M → g_Mo_begins_L1 n0 f M (nI a) (nI n) (nI k) (nI r) (nI (lw len k j)) (nI (a + j)) = some (if r * 2 ^ (15 - k) < lw len k n then 1 else 0) := by
  intro d
  induction d with
  | zero =>
    intro j M hj hM
    obtain ⟨m, rfl⟩ := succ_of hM
    have e : j = n := by omega
    subst e
    have b1 := lw_bound (len := len) (k := k) j
    have e15 : 2 ^ k * 2 ^ (15 - k) = 32768 := by rw [← Nat.pow_add, show k + (15 - k) = 15 by omega]
    have b2 : r * 2 ^ (15 - k) < 32768 := by
      rw [← e15]
      exact Nat.mul_lt_mul_of_pos_right hr (Nat.pow_pos (by decide))
    rw [g_Mo_begins_L1, nI_add, if_pos (nI_le (Nat.le_refl _) (by omega)), z_15, pk_sub h0, pk_shlN (nI (15 - k) &&& 31) (15 - k) (s_l _ (by omega)) (by omega)]
    by_cases c : lw len k j ≤ r * 2 ^ (15 - k)
    · rw [if_pos (nI_le c (by omega)), if_neg (by omega)]
    · rw [if_neg (nI_ge (by omega) (by omega)), if_pos (by omega)]
  | succ d ih =>
    intro j M hj hM
    obtain ⟨m, rfl⟩ := succ_of hM
    obtain ⟨e1, e2⟩ := h j (by omega)
    have e3 : lw len k (j + 1) = lw len k j + (if k < len j then 2 ^ (15 - len j) else 0) := rfl
    have q := ih (j + 1) m (by omega) (by omega)
    rw [← Nat.add_assoc] at q
    simp (disch := omega) only [g_Mo_begins_L1, z_0, nI_add, nI_leI, nI_ltI, nI_clamp, if_neg, e1]
    by_cases c : len j ≤ k
    · rw [if_pos c, nI_1]
      rw [e3, if_neg (by omega), Nat.add_zero] at q
      exact q
    · rw [if_neg c, nI_1, pow15 e2, nI_add]
      rw [e3, if_pos (by omega)] at q
      exact q
theorem begins_ok {f : Nat → Int32} {len : Nat → Nat} {a n n0 k r N : Nat} (h : mt f a n len) (ha : a + n ≤ n0) (hn0 : n0 ≤ 1000) (h0 : k ≤ 15) (hr : r < 2 ^ k) (hN : 100000 ≤ N) : g_Mo_begins_0 N n0 f (nI a) (nI n) (nI k) (nI r) = some (if r * 2 ^ (15 - k) < lw len k n then 1 else 0) := begins_loop h ha hn0 h0 hr n 0 N (by omega) (by omega)
theorem nth_loop {f : Nat → Int32} {len : Nat → Nat} {a n n0 k i : Nat} (h : mt f a n len) (ha : a + n ≤ n0) (hn0 : n0 ≤ 1000) (hk : k ≤ 15) (hi : i < cn len k n) : ∀ (d j M : Nat), j + d = n → d < M → cn len k j ≤ i → ∃ s, nth len n k i s ∧ g_Mo_nth_L1 n0 f M (nI a) (nI n) (nI k) (nI (i - cn len k j)) (nI j) = some (nI s) := by
  intro d
  induction d with
  | zero =>
    intro j M hj hM hc
    exfalso
    rw [show j = n by omega] at hc
    omega
  | succ d ih =>
    intro j M hj hM hc
    obtain ⟨m, rfl⟩ := succ_of hM
    obtain ⟨e1, e2⟩ := h j (by omega)
    have e3 : cn len k (j + 1) = cn len k j + (if len j = k then 1 else 0) := rfl
    have b1 := cn_le len k n
    by_cases c : len j = k
    · rw [if_pos c] at e3
      by_cases c2 : i = cn len k j
      · refine ⟨j, ⟨by omega, c, c2.symm⟩, ?_⟩
        simp (disch := omega) only [g_Mo_nth_L1, z_0, nI_add, nI_leI, nI_ltI, nI_eq, nI_clamp, if_neg, e1, if_pos]
      · obtain ⟨s, hs, q⟩ := ih (j + 1) m (by omega) (by omega) (by omega)
        refine ⟨s, hs, ?_⟩
        simp (disch := omega) only [g_Mo_nth_L1, z_0, nI_add, nI_leI, nI_ltI, nI_eq, nI_clamp, if_neg, e1, if_pos, nI_1]
        rw [show i - cn len k j = (i - cn len k (j + 1)) + 1 by omega, pk_m1]
        exact q
    · rw [if_neg c, Nat.add_zero] at e3
      obtain ⟨s, hs, q⟩ := ih (j + 1) m (by omega) (by omega) (by omega)
      refine ⟨s, hs, ?_⟩
      simp (disch := omega) only [g_Mo_nth_L1, z_0, nI_add, nI_leI, nI_ltI, nI_eq, nI_clamp, if_neg, e1, nI_1]
      rw [e3] at q
      exact q
theorem nth_ok {f : Nat → Int32} {len : Nat → Nat} {a n n0 k i N : Nat} (h : mt f a n len) (ha : a + n ≤ n0) (hn0 : n0 ≤ 1000) (hk : k ≤ 15) (hi : i < cn len k n) (hN : 100000 ≤ N) : ∃ s, nth len n k i s ∧ g_Mo_nth_0 N n0 f (nI a) (nI n) (nI k) (nI i) = some (nI s) := nth_loop h ha hn0 hk hi n 0 N (by omega) (by omega) (Nat.zero_le _)
