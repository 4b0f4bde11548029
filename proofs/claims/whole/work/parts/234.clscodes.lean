theorem fill2_loop {n0 : Nat} {v : Int32} (hn : n0 ≤ 100000) : ∀ (d j : Nat) (f : Nat → Int32) (M : Nat), j + d = n0 → d < M → (∀ i, i < j → f i = v) → ∃ f', g_Ar_fill2_L1 n0 M v (nI j) (nI n0) f = some f' ∧ (∀ i, i < n0 → f' i = v) := by
  intro d
  induction d with
  | zero =>
    intro j f M hj hM h
    obtain ⟨m, rfl⟩ := succ_of hM
    refine ⟨f, ?_, fun i hi => h i (by omega)⟩
    simp (disch := omega) only [g_Ar_fill2_L1, nI_leI, if_pos]
  | succ d ih =>
    intro j f M hj hM h
    obtain ⟨m, rfl⟩ := succ_of hM
    obtain ⟨f', e, h'⟩ := ih (j + 1) (upd f j v) m (by omega) (by omega) (fun i hi => by
      by_cases q : i = j
      · subst q; rw [pk_us]
      · rw [pk_un q]; exact h i (by omega))
    refine ⟨f', ?_, h'⟩
    simp (disch := omega) only [g_Ar_fill2_L1, z_0, nI_leI, nI_ltI, nI_clamp, if_neg, nI_1]
    exact e
theorem fill2_ok {n0 N : Nat} {v : Int32} {f : Nat → Int32} (hn : n0 < 100000) (hN : 100000 ≤ N) : ∃ f', g_Ar_fill2_0 N n0 v f = some f' ∧ ∀ i, i < n0 → f' i = v := fill2_loop (by omega) n0 0 f N (by omega) (by omega) (fun i hi => absurd hi (Nat.not_lt_zero i))
theorem cn_ex {len : Nat → Nat} {k : Nat} : ∀ {n : Nat}, 0 < cn len k n → ∃ s, s < n ∧ len s = k := by
  intro n
  induction n with
  | zero => intro h; exact absurd h (Nat.lt_irrefl 0)
  | succ n ih =>
    intro h
    by_cases c : len n = k
    · exact ⟨n, by omega, c⟩
    · have h' : 0 < cn len k n + (if len n = k then 1 else 0) := h
      rw [if_neg c] at h'
      obtain ⟨s, h1, h2⟩ := ih (by omega)
      exact ⟨s, by omega, h2⟩
theorem addSym_loop {f1 : Nat → Int32} {len : Nat → Nat} {a n n1 k c0 : Nat} (h : mt f1 a n len) (ha : a + n ≤ n1) (hn1 : n1 ≤ 1000) (hk : k ≤ 15) (hc : c0 + cn len k n ≤ 288) : ∀ (d j : Nat) (sy : Nat → Int32) (M : Nat), j + d = n → d < M → (∀ i, i < cn len k j → ∃ s, nth len n k i s ∧ sy (c0 + i) = nI s) →
    ∃ sy', g_ReadCodes_addSymbols_L1 n1 f1 288 M (nI a) (nI n) (nI k) (nI j) sy (nI (c0 + cn len k j)) = some (sy', nI (c0 + cn len k n)) ∧ (∀ i, i < c0 → sy' i = sy i) ∧ (∀ i, i < cn len k n → ∃ s, nth len n k i s ∧ sy' (c0 + i) = nI s) := by
  intro d
  induction d with
  | zero =>
    intro j sy M hj hM hs
    obtain ⟨m, rfl⟩ := succ_of hM
    have e : j = n := by omega
    subst e
    refine ⟨sy, ?_, fun _ _ => rfl, hs⟩
    simp (disch := omega) only [g_ReadCodes_addSymbols_L1, nI_leI, if_pos]
  | succ d ih =>
    intro j sy M hj hM hs
    obtain ⟨m, rfl⟩ := succ_of hM
    obtain ⟨e1, e2⟩ := h j (by omega)
    have e3 : cn len k (j + 1) = cn len k j + (if len j = k then 1 else 0) := rfl
    have hmo := cn_mono len k (show j + 1 ≤ n by omega)
    by_cases c : len j = k
    · rw [if_pos c] at e3
      obtain ⟨sy', q1, q2, q3⟩ := ih (j + 1) (upd sy (c0 + cn len k j) (nI j)) m (by omega) (by omega) (fun i hi => by
        by_cases q : i = cn len k j
        · subst q
          exact ⟨j, ⟨by omega, c, rfl⟩, pk_us⟩
        · obtain ⟨s, z1, z2⟩ := hs i (by omega)
          exact ⟨s, z1, by rw [pk_un (by omega)]; exact z2⟩)
      refine ⟨sy', ?_, fun i hi => by rw [q2 i hi, pk_un (by omega)], q3⟩
      simp (disch := omega) only [g_ReadCodes_addSymbols_L1, z_0, nI_add, nI_leI, nI_ltI, nI_eq, nI_clamp, if_neg, if_pos, e1, nI_1]
      rw [e3, ← Nat.add_assoc] at q1
      exact q1
    · rw [if_neg c, Nat.add_zero] at e3
      obtain ⟨sy', q1, q2, q3⟩ := ih (j + 1) sy m (by omega) (by omega) (fun i hi => hs i (by omega))
      refine ⟨sy', ?_, q2, q3⟩
      simp (disch := omega) only [g_ReadCodes_addSymbols_L1, z_0, nI_add, nI_leI, nI_ltI, nI_eq, nI_clamp, if_neg, e1, nI_1]
      rw [e3] at q1
      exact q1
/-- what the class's second loop has made behind length k -/
def mk2 (len : Nat → Nat) (n k l : Nat) (sy : Nat → Int32) : Prop := l ≤ k ∧ (∀ j, l < j → j ≤ k → cn len j n = 0) ∧ (l = 0 ∨ 0 < cn len l n) ∧ ∀ j i, 1 ≤ j → j ≤ k → i < cn len j n → ∃ s, nth len n j i s ∧ sy (bf len n (j - 1) + i) = nI s
theorem bf_n {len : Nat → Nat} {n k : Nat} (hk : k ≤ 15) : bf len n k ≤ n := by
  have h1 := bf_mono (len := len) (n := n) (a := k) (15 - k)
  rw [show k + (15 - k) = 15 by omega] at h1
  have h2 := bf_le (len := len) (n := n) 15
  have h3 := cg_le len 1 n
  omega
theorem make2_loop {f1 ct : Nat → Int32} {len : Nat → Nat} {a n n1 N : Nat} (h : mt f1 a n len) (ha : a + n ≤ n1) (hn1 : n1 ≤ 1000) (hn : n ≤ 288) (hN : 100000 ≤ N) (hct : ∀ k, k < 16 → ct k = nI (cn len k n)) : ∀ (d k l : Nat) (sy : Nat → Int32) (M : Nat), k + d = 15 → d < M → mk2 len n k l sy →
    ∃ (l' : Nat) (sy' : Nat → Int32), g_ReadCodes_make_L2 N 16 n1 f1 288 M (nI a) (nI n) (nI (k + 1)) ct (nI (bf len n k)) (nI l) sy = some (ct, nI (bf len n 15), nI l', sy') ∧ mk2 len n 15 l' sy' := by
  intro d
  induction d with
  | zero =>
    intro k l sy M hk hM hs
    obtain ⟨m, rfl⟩ := succ_of hM
    have e : k = 15 := by omega
    subst e
    refine ⟨l, sy, ?_, hs⟩
    rw [g_ReadCodes_make_L2, if_pos (show (15 : Int32) < nI (15 + 1) by decide)]
  | succ d ih =>
    intro k l sy M hk hM hs
    obtain ⟨m, rfl⟩ := succ_of hM
    have hB := bf_n (len := len) (n := n) (k := k) (by omega)
    have hB1 := bf_n (len := len) (n := n) (k := k + 1) (by omega)
    have eB : bf len n (k + 1) = bf len n k + cn len (k + 1) n := rfl
    have hcn := cn_le len (k + 1) n
    rw [g_ReadCodes_make_L2, if_neg (show ¬ (15 : Int32) < nI (k + 1) from nI_nlt (a := 15) (by omega) (by omega)), if_neg (by rw [z_0, nI_ltI (by omega) (by omega), nI_clamp (by omega)]; omega), nI_clamp (by omega), hct (k + 1) (by omega)]
    obtain ⟨s1, s2, s3, s4⟩ := hs
    by_cases c : cn len (k + 1) n = 0
    · rw [c, if_pos (show nI 0 ≤ 0 by decide), nI_1]
      obtain ⟨l', sy', q1, q2⟩ := ih (k + 1) l sy m (by omega) (by omega) ⟨by omega, fun j h1 h2 => by
          by_cases z : j = k + 1
          · rw [z]; exact c
          · exact s2 j h1 (by omega), s3, fun j i h1 h2 h3 => by
          by_cases z : j = k + 1
          · rw [z, c] at h3; omega
          · exact s4 j i h1 (by omega) h3⟩
      rw [eB, c, Nat.add_zero] at q1
      exact ⟨l', sy', q1, q2⟩
    · rw [if_neg (show ¬ nI (cn len (k + 1) n) ≤ 0 from nI_nle (by omega) (by omega))]
      obtain ⟨sy1, q1, q2, q3⟩ := addSym_loop (c0 := bf len n k) h ha hn1 (show k + 1 ≤ 15 by omega) (by omega) n 0 sy N (by omega) (by omega) (fun i hi => absurd hi (Nat.not_lt_zero i))
      have q1' : g_ReadCodes_addSymbols_0 N n1 f1 288 (nI a) (nI n) (nI (k + 1)) sy (nI (bf len n k)) = some (sy1, nI (bf len n (k + 1))) := q1
      rw [q1', Option.bind_some]
      dsimp only
      rw [nI_1]
      exact ih (k + 1) (k + 1) sy1 m (by omega) (by omega) ⟨Nat.le_refl _, fun j h1 h2 => absurd h1 (by omega), Or.inr (by omega), fun j i h1 h2 h3 => by
        by_cases z : j = k + 1
        · subst z
          exact q3 i h3
        · obtain ⟨s, z1, z2⟩ := s4 j i h1 (by omega) h3
          have hb : bf len n (j - 1) + i < bf len n k := by
            have e5 : bf len n j = bf len n (j - 1) + cn len j n := by
              obtain ⟨t, rfl⟩ : ∃ t, j = t + 1 := ⟨j - 1, by omega⟩
              rfl
            have e6 := bf_mono (len := len) (n := n) (a := j) (k - j)
            rw [show j + (k - j) = k by omega] at e6
            omega
          exact ⟨s, z1, by rw [q2 _ hb]; exact z2⟩⟩
theorem and15 {l : Nat} (h : l ≤ 15) : nI l &&& 15 = nI l := by
  rw [pk_andN (by omega) 4 (by decide), Nat.mod_eq_of_lt (by omega)]
theorem make1_loop {f1 : Nat → Int32} {len : Nat → Nat} {a n n1 N : Nat} {cd lg : Int32} {sy : Nat → Int32} (h : mt f1 a n len) (ha : a + n ≤ n1) (hn1 : n1 ≤ 1000) : ∀ (d j : Nat) (ct : Nat → Int32) (M : Nat), j + d = n → d < M → (∀ k, k < 16 → ct k = nI (cn len k j)) →
    ∃ ct', g_ReadCodes_make_L1 N 16 n1 f1 288 M (nI a) (nI n) (nI j) ct cd lg sy = g_ReadCodes_make_L2 N 16 n1 f1 288 N (nI a) (nI n) 1 ct' 0 0 sy ∧ ∀ k, k < 16 → ct' k = nI (cn len k n) := by
  intro d
  induction d with
  | zero =>
    intro j ct M hj hM hc
    obtain ⟨m, rfl⟩ := succ_of hM
    have e : j = n := by omega
    subst e
    refine ⟨ct, ?_, hc⟩
    rw [g_ReadCodes_make_L1, if_pos (nI_le (Nat.le_refl _) (by omega))]
  | succ d ih =>
    intro j ct M hj hM hc
    obtain ⟨m, rfl⟩ := succ_of hM
    obtain ⟨e1, e2⟩ := h j (by omega)
    obtain ⟨ct', q1, q2⟩ := ih (j + 1) (upd ct (len j) (ct (len j) + 1)) m (by omega) (by omega) (fun k hk => by
      have e3 : cn len k (j + 1) = cn len k j + (if len j = k then 1 else 0) := rfl
      by_cases q : k = len j
      · subst q
        rw [pk_us, hc (len j) hk, nI_1, e3, if_pos rfl]
      · rw [pk_un q, hc k hk, e3, if_neg (fun z => q z.symm), Nat.add_zero])
    refine ⟨ct', ?_, q2⟩
    rw [← q1]
    simp (disch := omega) only [g_ReadCodes_make_L1, z_0, nI_add, nI_leI, nI_ltI, nI_clamp, if_neg, e1, and15, nI_1]
theorem make_ok {f1 ct sy : Nat → Int32} {len : Nat → Nat} {a n n1 N : Nat} {cd lg : Int32} (h : mt f1 a n len) (ha : a + n ≤ n1) (hn1 : n1 ≤ 1000) (hn : n ≤ 288) (hN : 100000 ≤ N) :
    ∃ (l : Nat) (ct' sy' : Nat → Int32), g_ReadCodes_make_0 N 16 n1 f1 288 (nI a) (nI n) ct cd lg sy = some (ct', nI (bf len n 15), nI l, sy') ∧ rc len n l ct' sy' (nI (bf len n 15)) (nI l) := by
  obtain ⟨c0, e0, h0⟩ := fill2_ok (n0 := 16) (v := 0) (f := ct) (by omega) hN
  obtain ⟨c1, e1, h1⟩ := make1_loop (N := N) (cd := cd) (lg := lg) (sy := sy) h ha hn1 n 0 c0 N (by omega) (by omega) (fun k hk => h0 k hk)
  obtain ⟨l, s1, e2, m1, m2, m3, m4⟩ := make2_loop (ct := c1) h ha hn1 hn hN h1 15 0 0 sy N (by omega) (by omega) ⟨Nat.le_refl _, fun j h1 h2 => absurd h1 (by omega), Or.inl rfl, fun j i h1 h2 => absurd h1 (by omega)⟩
  refine ⟨l, c1, s1, ?_, fun k hk1 hk2 => h1 k (by omega), rfl, rfl, ⟨m1, fun s hs => ?_, ?_⟩, m4⟩
  · rw [g_ReadCodes_make_0, e0, Option.bind_some]
    exact e1.trans e2
  · rcases Nat.lt_or_ge l (len s) with q | q
    · have := m2 (len s) q (h s hs).2
      have := cn_pos (len := len) hs rfl
      omega
    · exact q
  · rcases m3 with q | q
    · exact Or.inl q
    · exact Or.inr (cn_ex q)
