/-- how far the bytes at q and p agree, from i on, k more at most -/
def lc (g : Nat → Int32) (q p : Nat) : Nat → Nat → Nat
  | 0, i => i
  | k + 1, i => if g (q + i) = g (p + i) then lc g q p k (i + 1) else i
theorem lc_le (g : Nat → Int32) (q p : Nat) : ∀ k i, i ≤ lc g q p k i ∧ lc g q p k i ≤ i + k := by
  intro k
  induction k with
  | zero => intro i; exact ⟨Nat.le_refl _, Nat.le_refl _⟩
  | succ k ih =>
    intro i
    show i ≤ (if g (q + i) = g (p + i) then lc g q p k (i + 1) else i) ∧ (if g (q + i) = g (p + i) then lc g q p k (i + 1) else i) ≤ _
    have := ih (i + 1)
    split <;> omega
theorem lc_eq {g : Nat → Int32} {q p j : Nat} : ∀ k i, i ≤ j → j < lc g q p k i → g (q + j) = g (p + j) := by
  intro k
  induction k with
  | zero => intro i h1 h2; exact absurd h2 (by show ¬ j < i; omega)
  | succ k ih =>
    intro i h1 h2
    have h2' : j < (if g (q + i) = g (p + i) then lc g q p k (i + 1) else i) := h2
    by_cases c : g (q + i) = g (p + i)
    · rw [if_pos c] at h2'
      by_cases e : j = i
      · subst e; exact c
      · exact ih (i + 1) (by omega) h2'
    · rw [if_neg c] at h2'
      omega
theorem lc_s3 {g : Nat → Int32} {q p k : Nat} (h : s3 g q p) : lc g q p (k + 3) 0 = lc g q p k 3 := by
  show (if g (q + 0) = g (p + 0) then (if g (q + 1) = g (p + 1) then (if g (q + 2) = g (p + 2) then lc g q p k 3 else 2) else 1) else 0) = _
  rw [if_pos (show g (q + 0) = g (p + 0) from h.1), if_pos h.2.1, if_pos h.2.2]
theorem lc_n3 {g : Nat → Int32} {q p k : Nat} (h : ¬ s3 g q p) : lc g q p (k + 3) 0 < 3 := by
  show (if g (q + 0) = g (p + 0) then (if g (q + 1) = g (p + 1) then (if g (q + 2) = g (p + 2) then lc g q p k 3 else 2) else 1) else 0) < 3
  by_cases a : g (q + 0) = g (p + 0)
  · rw [if_pos a]
    by_cases b : g (q + 1) = g (p + 1)
    · rw [if_pos b]
      by_cases c : g (q + 2) = g (p + 2)
      · exact absurd ⟨a, b, c⟩ h
      · rw [if_neg c]; omega
    · rw [if_neg b]; omega
  · rw [if_neg a]; omega
theorem fg_iff {f g : Nat → Int32} {m a b : Nat} (h : rb f g m) (ha : a < m) (hb : b < m) : f a = f b ↔ g a = g b := by
  obtain ⟨x, hx, e1, e2⟩ := h a ha
  obtain ⟨y, hy, d1, d2⟩ := h b hb
  rw [e1, e2, d1, d2, sb_inj x hx y hy, nI_eq (by omega) (by omega)]
theorem same_loop {f g : Nat → Int32} {m q p most : Nat} (h : rb f g m) (hm : m ≤ 8192) (hq : q ≤ p) (hp : p + most ≤ m) : ∀ (d i M : Nat), i + d = most → d < M → g_Matcher_countSame_L1 9000 f M (nI q) (nI p) (nI most) (nI i) = some (nI (lc g q p d i)) := by
  intro d
  induction d with
  | zero =>
    intro i M hi hM
    obtain ⟨k, rfl⟩ := succ_of hM
    rw [g_Matcher_countSame_L1, if_pos (nI_le (by omega) (by omega)), show most = i by omega]
    rfl
  | succ d ih =>
    intro i M hi hM
    obtain ⟨k, rfl⟩ := succ_of hM
    have e := fg_iff h (show q + i < m by omega) (show p + i < m by omega)
    rw [g_Matcher_countSame_L1, if_neg (nI_ge (by omega) (by omega)), nI_add, nI_add, if_neg (nI_in (by omega) (by omega)), if_neg (nI_in (by omega) (by omega)), nI_clamp (by omega), nI_clamp (by omega), nI_1]
    show _ = some (nI (if g (q + i) = g (p + i) then lc g q p d (i + 1) else i))
    by_cases c : g (q + i) = g (p + i)
    · rw [if_pos (e.mpr c), if_pos c]
      exact ih (i + 1) k (by omega) (by omega)
    · rw [if_neg (fun z => c (e.mp z)), if_neg c]
theorem best_in {f g : Nat → Int32} {m q p e most : Nat} {K : Int32 → Int32 → Int32 → Int32 → Int32 → Int32 → Option Int32} {x3 x4 x5 : Int32} (h : rb f g m) (hm : m ≤ 8192) (hq : q ≤ p) (he : e ≤ m) (hpe : p ≤ e) (hmo : most = if 258 < e - p then 258 else e - p) : ∀ (d i M : Nat), i + d = most → d < M → g_Mo_bestAt_L2 8192 g K M (nI p) (nI e) x3 x4 x5 (nI q) (nI i) = g_Mo_bestAt_J1 K (nI p) (nI e) x3 x4 x5 (nI q) (nI (lc g q p d i)) := by
  have hmo2 : most ≤ 258 ∧ p + most ≤ e ∧ (most = 258 ∨ p + most = e) := by
    rw [hmo]; split <;> omega
  intro d
  induction d with
  | zero =>
    intro i M hi hM
    obtain ⟨k, rfl⟩ := succ_of hM
    have ei : i = most := by omega
    subst ei
    rw [g_Mo_bestAt_L2, nI_add]
    show _ = g_Mo_bestAt_J1 K (nI p) (nI e) x3 x4 x5 (nI q) (nI i)
    by_cases c : e ≤ p + i
    · rw [if_pos (nI_le c (by omega))]
    · rw [if_neg (nI_ge (by omega) (by omega)), if_pos (show (258 : Int32) ≤ nI i from nI_le (a := 258) (by omega) (by omega))]
  | succ d ih =>
    intro i M hi hM
    obtain ⟨k, rfl⟩ := succ_of hM
    rw [g_Mo_bestAt_L2, nI_add, if_neg (nI_ge (by omega) (by omega)), if_neg (show ¬ (258 : Int32) ≤ nI i from nI_ge (b := 258) (by omega) (by omega)), nI_add, if_neg (nI_in (by omega) (by omega)), if_neg (nI_in (by omega) (by omega)), nI_clamp (by omega), nI_clamp (by omega), nI_1]
    show _ = g_Mo_bestAt_J1 K (nI p) (nI e) x3 x4 x5 (nI q) (nI (if g (q + i) = g (p + i) then lc g q p d (i + 1) else i))
    by_cases c : g (q + i) = g (p + i)
    · rw [if_pos c, if_pos c]
      exact ih (i + 1) k (by omega) (by omega)
    · rw [if_neg c, if_neg c]
theorem m1s (j : Nat) : nI j + (-1) = nI j - 1 := by
  cases j with
  | zero => decide
  | succ d => rw [pk_m1, nI_pred]
theorem bdiv {l D : Nat} (hl : l ≤ 258) (hD : D < 65536) : nI (65536 * l + D) / 65536 = nI l := by
  rw [z_65536, pk_div (by omega) (by decide) (by decide), show (65536 * l + D) / 65536 = l by omega]
theorem bst_in {f g : Nat → Int32} {m q p e ch sn l D N M : Nat} (h : rb f g m) (hm : m ≤ 8192) (hq : q < p) (he : e ≤ m) (hpe : p + 3 ≤ e) (hN : 100000 ≤ N) (hc : sn < ch) (hch : ch ≤ 128) :
    g_Mo_bestAt_L1 N 8192 g (M + 1) (nI p) (nI e) (nI ch) (nI (65536 * l + D)) (nI sn) (nI (q + 1) - 1) = g_Mo_bestAt_J1 (g_Mo_bestAt_L1 N 8192 g M) (nI p) (nI e) (nI ch) (nI (65536 * l + D)) (nI sn) (nI q) (nI (lc g q p (if 258 < e - p then 258 else e - p) 0)) := by
  rw [g_Mo_bestAt_L1, nI_pred, if_neg (nI_pos (by omega)), pk_sub (by omega), if_neg (show ¬ (32768 : Int32) < nI (p - q) from nI_nlt (a := 32768) (by omega) (by omega)), z_3, nI_add, if_neg (nI_nlt (by omega) (by omega)), if_neg (nI_ge (by omega) (by omega))]
  exact best_in h hm (by omega) he (by omega) rfl _ 0 N (by omega) (by split <;> omega)
/-- once the length is the most there can be nothing changes -/
theorem best_stuck {f g : Nat → Int32} {m p e ch l D N : Nat} (h : rb f g m) (hm : m ≤ 8192) (he : e ≤ m) (hpe : p + 3 ≤ e) (hN : 100000 ≤ N) (hch : ch ≤ 128) (hl : (if 258 < e - p then 258 else e - p) ≤ l) (hl2 : l ≤ 258) (hD : D < 65536) : ∀ (j sn M : Nat), j ≤ p → j < M → sn ≤ ch → g_Mo_bestAt_L1 N 8192 g M (nI p) (nI e) (nI ch) (nI (65536 * l + D)) (nI sn) (nI j - 1) = some (nI (65536 * l + D)) := by
  intro j
  induction j with
  | zero =>
    intro sn M hj hM hs
    obtain ⟨k, rfl⟩ := succ_of hM
    rw [g_Mo_bestAt_L1, if_pos (by decide)]
  | succ j ih =>
    intro sn M hj hM hs
    obtain ⟨k, rfl⟩ := succ_of hM
    by_cases c : sn < ch
    · rw [bst_in h hm (by omega) he hpe hN c hch, g_Mo_bestAt_J1]
      have hle := (lc_le g j p (if 258 < e - p then 258 else e - p) 0).2
      rw [Nat.zero_add] at hle
      rw [bdiv hl2 hD, m1s, nI_1]
      by_cases c2 : lc g j p (if 258 < e - p then 258 else e - p) 0 < 3
      · rw [if_pos (show nI _ < (3 : Int32) from nI_lt (b := 3) c2 (by omega))]
        exact ih sn k (by omega) (by omega) hs
      · rw [if_neg (show ¬ nI _ < (3 : Int32) from nI_nlt (b := 3) (by omega) (by omega)), if_pos (nI_le (by omega) (by omega))]
        exact ih (sn + 1) k (by omega) (by omega) (by omega)
    · rw [g_Mo_bestAt_L1, nI_pred, if_neg (nI_pos (by omega)), pk_sub (by omega), if_neg (show ¬ (32768 : Int32) < nI (p - j) from nI_nlt (a := 32768) (by omega) (by omega)), z_3, nI_add, if_neg (nI_nlt (by omega) (by omega)), if_pos (nI_le (by omega) (by omega))]
theorem find_loop {f g ne : Nat → Int32} {m p e ch most N : Nat} (h : rb f g m) (hm : m ≤ 8192) (he : e ≤ m) (hpe : p + 3 ≤ e) (hN : 100000 ≤ N) (hch : ch ≤ 128) (hmo : most = if 258 < e - p then 258 else e - p) (hne : ∀ x, x + 2 < m → ne x = pv g x x) : ∀ (j sn l D M M' : Nat), j ≤ p → j < M → j < M' → sn ≤ ch → (l = 0 ∧ D = 0 ∨ 3 ≤ l ∧ l ≤ most ∧ 1 ≤ D ∧ D ≤ p) →
    ∃ l' D', (l' = 0 ∧ D' = 0 ∨ 3 ≤ l' ∧ l' ≤ most ∧ 1 ≤ D' ∧ D' ≤ p) ∧ g_Matcher_find_L1 N 8192 ne 9000 f M (nI p) (nI ch) (nI most) (pv g p j) (nI sn) (nI l) (nI D) = some (nI l', nI D') ∧ g_Mo_bestAt_L1 N 8192 g M' (nI p) (nI e) (nI ch) (nI (65536 * l + D)) (nI sn) (nI j - 1) = some (nI (65536 * l' + D')) := by
  have hmo2 : 3 ≤ most ∧ most ≤ 258 ∧ p + most ≤ e := by
    rw [hmo]; split <;> omega
  intro j
  induction j with
  | zero =>
    intro sn l D M M' hj hM hM' hs hl
    obtain ⟨k, rfl⟩ := succ_of hM
    obtain ⟨k', rfl⟩ := succ_of hM'
    refine ⟨l, D, hl, ?_, ?_⟩
    · show g_Matcher_find_L1 N 8192 ne 9000 f (k + 1) (nI p) (nI ch) (nI most) (-1) (nI sn) (nI l) (nI D) = _
      rw [g_Matcher_find_L1, if_pos (show (-1 : Int32) < 0 by decide)]
      split <;> rfl
    · rw [g_Mo_bestAt_L1, if_pos (by decide)]
  | succ j ih =>
    intro sn l D M M' hj hM hM' hs hl
    have hlb : l ≤ most ∧ D < 65536 := by omega
    by_cases c : sn < ch
    · obtain ⟨k', rfl⟩ := succ_of hM'
      rw [bst_in h hm (by omega) he hpe hN c hch, g_Mo_bestAt_J1, bdiv (by omega) hlb.2, m1s, nI_1, ← hmo]
      obtain ⟨mo, emo⟩ : ∃ mo, most = mo + 3 := ⟨most - 3, by omega⟩
      by_cases c3 : s3 g j p
      · obtain ⟨k, rfl⟩ := succ_of hM
        have epv : pv g p (j + 1) = nI j := by
          show (if s3 g j p then nI j else pv g p j) = _
          rw [if_pos c3]
        have enx : ne j = pv g p j := by
          rw [hne j (by omega), pv_same c3]
        have elc : lc g j p most 0 = lc g j p mo 3 := by rw [emo]; exact lc_s3 c3
        have hlc := lc_le g j p mo 3
        rw [elc, if_neg (show ¬ nI _ < (3 : Int32) from nI_nlt (b := 3) (by omega) (by omega)), epv, g_Matcher_find_L1, if_neg (nI_ge c (by omega)), if_neg (nI_pos (by omega))]
        by_cases c4 : most ≤ l
        · rw [if_pos (nI_le c4 (by omega)), if_pos (nI_le (by omega) (by omega))]
          exact ⟨l, D, hl, rfl, best_stuck h hm he hpe hN hch (by rw [← hmo]; exact c4) (by omega) hlb.2 j (sn + 1) k' (by omega) (by omega) (by omega)⟩
        · have cnt : g_Matcher_countSame_0 N 9000 f (nI j) (nI p) (nI most) = some (nI (lc g j p mo 3)) := by
            rw [g_Matcher_countSame_0]
            exact same_loop h hm (by omega) (by omega) mo 3 N (by omega) (by omega)
          have nx : ∀ (a b : Int32), g_Matcher_find_J1 8192 ne (g_Matcher_find_L1 N 8192 ne 9000 f k) (nI p) (nI ch) (nI most) (nI j) (nI sn) a b = g_Matcher_find_L1 N 8192 ne 9000 f k (nI p) (nI ch) (nI most) (pv g p j) (nI (sn + 1)) a b := by
            intro a b
            rw [g_Matcher_find_J1, if_neg (nI_in (by omega) (by omega)), nI_clamp (by omega), enx, nI_1]
          rw [if_neg (nI_ge (by omega) (by omega)), nI_add, nI_add, if_neg (nI_in (by omega) (by omega)), if_neg (nI_in (by omega) (by omega)), nI_clamp (by omega), nI_clamp (by omega), cnt, Option.bind_some, nx, nx]
          have ef := fg_iff h (show j + l < m by omega) (show p + l < m by omega)
          by_cases c5 : lc g j p mo 3 ≤ l
          · rw [if_pos (nI_le c5 (by omega)), if_pos (nI_le c5 (by omega)), ite_self]
            exact ih (sn + 1) l D k k' (by omega) (by omega) (by omega) (by omega) hl
          · have eq : g (j + l) = g (p + l) := by
              by_cases z : l < 3
              · rw [show l = 0 by omega]; exact c3.1
              · exact lc_eq mo 3 (by omega) (by omega)
            rw [if_pos (ef.mpr eq), if_neg (nI_ge (by omega) (by omega)), if_neg (nI_ge (by omega) (by omega)), pk_sub (by omega), z_65536, pk_mul, nI_add, pk_sub (by omega), show 65536 * lc g j p mo 3 + p - j = 65536 * lc g j p mo 3 + (p - j) by omega]
            exact ih (sn + 1) (lc g j p mo 3) (p - j) k k' (by omega) (by omega) (by omega) (by omega) (by omega)
      · have epv : pv g p (j + 1) = pv g p j := by
          show (if s3 g j p then nI j else pv g p j) = _
          rw [if_neg c3]
        have hlt : lc g j p most 0 < 3 := by rw [emo]; exact lc_n3 c3
        rw [if_pos (show nI _ < (3 : Int32) from nI_lt (b := 3) hlt (by omega)), epv]
        exact ih sn l D M k' (by omega) (by omega) (by omega) hs hl
    · obtain ⟨k, rfl⟩ := succ_of hM
      obtain ⟨k', rfl⟩ := succ_of hM'
      refine ⟨l, D, hl, ?_, ?_⟩
      · rw [g_Matcher_find_L1, if_pos (nI_le (by omega) (by omega))]
      · rw [g_Mo_bestAt_L1, nI_pred, if_neg (nI_pos (by omega)), pk_sub (by omega), if_neg (show ¬ (32768 : Int32) < nI (p - j) from nI_nlt (a := 32768) (by omega) (by omega)), z_3, nI_add, if_neg (nI_nlt (by omega) (by omega)), if_pos (nI_le (by omega) (by omega))]
/-- the match at p: what the class finds and what the reference does -/
theorem sim_find {f g ne : Nat → Int32} {m p e ch N : Nat} (h : rb f g m) (hm : m ≤ 8192) (he : e ≤ m) (hpe : p ≤ e) (hN : 100000 ≤ N) (hch : ch ≤ 128) (hne : ∀ x, x + 2 < m → ne x = pv g x x) :
    ∃ l D, (l = 0 ∧ D = 0 ∨ 3 ≤ l ∧ l ≤ 258 ∧ p + l ≤ e ∧ 1 ≤ D ∧ D ≤ p) ∧ (∀ a b : Int32, g_Matcher_find_0 N 8192 ne 9000 f (nI p) (nI e) (nI ch) a b = some (nI l, nI D)) ∧ g_Mo_bestAt_0 N 8192 g (nI p) (nI e) (nI ch) = some (nI (65536 * l + D)) := by
  have em : (if (258 : Int32) < (nI e - nI p) then (258 : Int32) else (nI e - nI p)) = nI (if 258 < e - p then 258 else e - p) := by
    rw [pk_sub hpe]
    by_cases c : 258 < e - p
    · rw [if_pos c, if_pos (show (258 : Int32) < nI (e - p) from nI_lt (a := 258) c (by omega))]; rfl
    · rw [if_neg c, if_neg (show ¬ (258 : Int32) < nI (e - p) from nI_nlt (a := 258) (by omega) (by omega))]
  by_cases c : p + 3 ≤ e
  · obtain ⟨l, D, w1, w2, w3⟩ := find_loop h hm he c hN hch rfl hne p 0 0 0 N N (by omega) (by omega) (by omega) (by omega) (Or.inl ⟨rfl, rfl⟩)
    have hmo2 : 3 ≤ (if 258 < e - p then 258 else e - p) ∧ (if 258 < e - p then 258 else e - p) ≤ 258 ∧ p + (if 258 < e - p then 258 else e - p) ≤ e := by split <;> omega
    refine ⟨l, D, by omega, fun a b => ?_, ?_⟩
    · rw [g_Matcher_find_0, em, if_pos (show (3 : Int32) ≤ nI _ from nI_le (a := 3) (by omega) (by omega)), if_neg (nI_in (by omega) (by omega)), nI_clamp (by omega), hne p (by omega)]
      exact w2
    · rw [g_Mo_bestAt_0]
      exact w3
  · refine ⟨0, 0, Or.inl ⟨rfl, rfl⟩, fun a b => ?_, ?_⟩
    · rw [g_Matcher_find_0, em, if_neg (show ¬ (3 : Int32) ≤ nI _ from nI_ge (b := 3) (by split <;> omega) (by omega))]; rfl
    · rw [g_Mo_bestAt_0]
      obtain ⟨k, rfl⟩ := succ_of (show 0 < N by omega)
      rw [g_Mo_bestAt_L1]
      by_cases c0 : nI p - 1 < 0
      · rw [if_pos c0]; rfl
      · rw [if_neg c0]
        by_cases c1 : (32768 : Int32) < nI p - (nI p - 1)
        · rw [if_pos c1]; rfl
        · rw [if_neg c1, z_3, nI_add, if_pos (nI_lt (by omega) (by omega))]; rfl
