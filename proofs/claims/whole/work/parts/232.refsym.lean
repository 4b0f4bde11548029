/-- what the reference's symbol does at one length, behind its count: the bit and what comes of it -/
theorem sym_count {f g : Nat → Int32} {len : Nat → Nat} {a n n0 N ni k : Nat} {K : Int32 → Int32 → Int32 → Int32 → Int32 → Int32 → Int32 → Option (Int32 × Int32 × Int32)} {x4 x5 v p : Int32} (h : mt f a n len) (ha : a + n ≤ n0) (hn0 : n0 ≤ 1000) (hk : k ≤ 15) (h1 : 1 ≤ k) : ∀ (d j M : Nat), j + d = n → d < M →
    g_Mo_symbol_L2 N (nI ni) n0 f 8192 g K M (nI a) (nI n) x4 x5 (nI k) (nI (cn len k j)) (nI (cg len k j)) (nI (a + j)) v p = (if cg len k n = 0 then Option.bind (g_Mo_blame_0 8 v) (fun r5 => g_Mo_symbol_J2 N (nI ni) n0 f 8192 g K (nI a) (nI n) x4 x5 (nI k) (nI (cn len k n)) r5 p) else g_Mo_symbol_J2 N (nI ni) n0 f 8192 g K (nI a) (nI n) x4 x5 (nI k) (nI (cn len k n)) v p) := by
  intro d
  induction d with
  | zero =>
    intro j M hj hM
    obtain ⟨m, rfl⟩ := succ_of hM
    have e : j = n := by omega
    subst e
    have b2 := cg_le len k j
    simp (disch := omega) only [g_Mo_symbol_L2, nI_add, nI_leI, if_pos, z_0, nI_eq]
  | succ d ih =>
    intro j M hj hM
    obtain ⟨m, rfl⟩ := succ_of hM
    obtain ⟨e1, e2⟩ := h j (by omega)
    have e3 : cn len k (j + 1) = cn len k j + (if len j = k then 1 else 0) := rfl
    have e4 : cg len k (j + 1) = cg len k j + (if k ≤ len j then 1 else 0) := rfl
    have q := ih (j + 1) m (by omega) (by omega)
    rw [← Nat.add_assoc] at q
    rw [← q]
    simp (disch := omega) only [g_Mo_symbol_L2, g_Mo_symbol_J1, z_0, nI_add, nI_leI, nI_ltI, nI_eq, nI_clamp, if_neg, e1, nI_1]
    by_cases c : len j = k
    · have e3' : cn len k (j + 1) = cn len k j + 1 := by rw [e3, if_pos c]
      have e4' : cg len k (j + 1) = cg len k j + 1 := by rw [e4, if_pos (by omega)]
      rw [if_pos c, e3', e4']
    · have e3' : cn len k (j + 1) = cn len k j := by rw [e3, if_neg c, Nat.add_zero]
      rw [if_neg c, e3']
      by_cases c2 : len j < k
      · have e4' : cg len k (j + 1) = cg len k j := by rw [e4, if_neg (by omega), Nat.add_zero]
        rw [if_pos c2, e4']
      · have e4' : cg len k (j + 1) = cg len k j + 1 := by rw [e4, if_pos (by omega)]
        rw [if_neg c2, e4']
/-- the class's table of codes for these lengths -/
def rc (len : Nat → Nat) (n l : Nat) (counts symbols : Nat → Int32) (codes longest : Int32) : Prop :=
  (∀ k, 1 ≤ k → k ≤ 15 → counts k = nI (cn len k n)) ∧ codes = nI (bf len n 15) ∧ longest = nI l ∧ top len n l ∧ ∀ k i, 1 ≤ k → k ≤ 15 → i < cn len k n → ∃ s, nth len n k i s ∧ symbols (bf len n (k - 1) + i) = nI s
theorem bf_mono {len : Nat → Nat} {n a : Nat} : ∀ d, bf len n a ≤ bf len n (a + d) := by
  intro d
  induction d with
  | zero => exact Nat.le_refl _
  | succ d ih => exact Nat.le_trans ih (Nat.le_add_right _ _)
theorem bf_le {len : Nat → Nat} {n : Nat} : ∀ k, bf len n k + cg len (k + 1) n = cg len 1 n := by
  intro k
  induction k with
  | zero => show 0 + cg len 1 n = cg len 1 n; omega
  | succ k ih =>
    have e : ∀ m, cg len (k + 1) m = cg len (k + 2) m + cn len (k + 1) m := by
      intro m
      induction m with
      | zero => rfl
      | succ m im =>
        show cg len (k + 1) m + (if k + 1 ≤ len m then 1 else 0) = cg len (k + 2) m + (if k + 2 ≤ len m then 1 else 0) + (cn len (k + 1) m + (if len m = k + 1 then 1 else 0))
        by_cases c1 : len m = k + 1
        · rw [if_pos (by omega), if_neg (by omega), if_pos c1]; omega
        · by_cases c2 : k + 2 ≤ len m
          · rw [if_pos (by omega), if_pos c2, if_neg c1]; omega
          · rw [if_neg (by omega), if_neg c2, if_neg c1]; omega
    show bf len n k + cn len (k + 1) n + cg len (k + 2) n = cg len 1 n
    have := e n
    omega
theorem fs_lt {len : Nat → Nat} {n : Nat} (hl : ∀ s, s < n → len s ≤ 15) (hv : okc len n) {k : Nat} (hk : k ≤ 15) : fs len n k ≤ 2 ^ k := by
  have h := kraft len n hl k hk
  have e : 2 ^ k * 2 ^ (15 - k) = 32768 := by rw [← Nat.pow_add, show k + (15 - k) = 15 by omega]
  have hw : lw len 0 n ≤ 32768 := by
    rcases hv with q | ⟨q1, q2⟩ | q
    · omega
    · omega
    · have : lw len 0 n = 0 := lw_zero (fun s hs => by
        rcases Nat.lt_or_ge (len s) 1 with z | z
        · omega
        · have := cg_pos (len := len) (k := 1) hs z
          omega)
      omega
  have hp : 0 < 2 ^ (15 - k) := Nat.pow_pos (by decide)
  exact Nat.le_of_mul_le_mul_right (show fs len n k * 2 ^ (15 - k) ≤ 2 ^ k * 2 ^ (15 - k) by omega) hp
