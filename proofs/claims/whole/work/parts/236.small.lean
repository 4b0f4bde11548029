theorem blame_off {a v : Int32} (ha : ¬ a = 0) : g_Mo_blame_0 v a = some a := by
  rw [g_Mo_blame_0, if_neg ha]; rfl
theorem rl_L4_off {sm ln rw_ : Nat → Int32} {N M : Nat} {a p x1 x2 x6 : Int32} (ha : ¬ a = 0) (hM : 0 < M) : g_Mo_readLengths_L4 N 320 320 M x1 x2 x6 a p sm ln rw_ = some (a, p, sm, ln, rw_) := by
  obtain ⟨m, rfl⟩ := succ_of hM
  have e : g_Mo_readLengths_J10 N 320 a p sm ln rw_ = some (a, p, sm, ln, rw_) := by
    rw [g_Mo_readLengths_J10, if_neg ha, g_Mo_readLengths_J12, if_neg ha]
  rw [g_Mo_readLengths_L4, if_neg ha, e]
  by_cases c : (320 : Int32) ≤ x6
  · rw [if_pos c]
  · rw [if_neg c]
theorem rl_L2_off {g sm ln rw_ : Nat → Int32} {N M : Nat} {a p x1 x2 x4 x5 ni : Int32} (ha : ¬ a = 0) (hM : 0 < M) (hN : 0 < N) : g_Mo_readLengths_L2 N ni 8192 g 19 320 320 M x1 x2 x4 x5 a p sm ln rw_ = some (a, p, sm, ln, rw_) := by
  obtain ⟨m, rfl⟩ := succ_of hM
  rw [g_Mo_readLengths_L2, if_neg ha, rl_L4_off ha hN]
  by_cases c : x4 ≤ x5
  · rw [if_pos c]
  · rw [if_neg c]
theorem so_ok : ∀ i, i < 19 → g_Mo_smallOrder_0 (nI i) = some (tabS i) := by decide +kernel
def ord (i : Nat) : Nat := (tabS i).toNatClampNeg
theorem ord_lt : ∀ i, i < 19 → ord i < 19 ∧ tabS i = nI (ord i) := by decide +kernel
theorem ord_inj : ∀ i, i < 19 → ∀ j, j < 19 → ord i = ord j → i = j := by decide +kernel
theorem ord_sur : ∀ s, s < 19 → ∃ j, j < 19 ∧ ord j = s := by decide +kernel
theorem rl_L1_off {g ln rw_ : Nat → Int32} {n N : Nat} {a p x1 x2 x3 : Int32} (ha : ¬ a = 0) (hN : 100000 ≤ N) : ∀ (d i : Nat) (sm : Nat → Int32) (M : Nat), i + d = 19 → d < M → ∃ sm', g_Mo_readLengths_L1 N (nI n) 8192 g 19 320 320 M x1 x2 x3 (nI i) a p sm ln rw_ = some (a, p, sm', ln, rw_) := by
  intro d
  induction d with
  | zero =>
    intro i sm M hi hM
    obtain ⟨m, rfl⟩ := succ_of hM
    refine ⟨sm, ?_⟩
    rw [g_Mo_readLengths_L1, if_pos (show (19 : Int32) ≤ nI i from nI_le (a := 19) (by omega) (by omega)), if_neg ha, g_Mo_readLengths_J4]
    exact rl_L2_off ha (by omega) (by omega)
  | succ d ih =>
    intro i sm M hi hM
    obtain ⟨m, rfl⟩ := succ_of hM
    have ho := ord_lt i (by omega)
    rw [g_Mo_readLengths_L1, if_neg (show ¬ (19 : Int32) ≤ nI i from nI_ge (b := 19) (by omega) (by omega)), so_ok i (by omega), Option.bind_some, ho.2]
    have key : ∀ v, ∃ sm', g_Mo_readLengths_J3 19 (g_Mo_readLengths_L1 N (nI n) 8192 g 19 320 320 m) x1 x2 x3 (nI i) v (nI (ord i)) a p sm ln rw_ = some (a, p, sm', ln, rw_) := by
      intro v
      obtain ⟨sm', e⟩ := ih (i + 1) (upd sm (ord i) v) m (by omega) (by omega)
      refine ⟨sm', ?_⟩
      have := ho.1
      simp (disch := omega) only [g_Mo_readLengths_J3, z_0, nI_ltI, nI_clamp, if_neg, nI_1]
      exact e
    by_cases c : x3 + 4 ≤ nI i
    · rw [if_pos c]
      exact key _
    · rw [if_neg c, z_3, number_off ha hN (by decide), Option.bind_some]
      exact key _
theorem numOf3 (g : Nat → Int32) (p : Nat) : numOf g p 3 ≤ 7 := by
  have := numOf_lt g p 3
  omega
/-- the small lengths, class and reference: up to the first i of their order -/
def sl (fl sm : Nat → Int32) (i : Nat) : Prop := (∀ j, j < i → ∃ v : Nat, v ≤ 7 ∧ fl (ord j) = nI v ∧ sm (ord j) = nI v) ∧ ∀ j, i ≤ j → j < 19 → fl (ord j) = 0
theorem sl_put {fl sm : Nat → Int32} {i v : Nat} (hi : i < 19) (hv : v ≤ 7) (h : sl fl sm i) : sl (upd fl (ord i) (nI v)) (upd sm (ord i) (nI v)) (i + 1) := by
  obtain ⟨h1, h2⟩ := h
  refine ⟨fun j hj => ?_, fun j hj hj2 => ?_⟩
  · by_cases c : j = i
    · subst c
      exact ⟨v, hv, pk_us, pk_us⟩
    · have hne : ord j ≠ ord i := fun z => c (ord_inj j (by omega) i hi z)
      rw [pk_un hne, pk_un hne]
      exact h1 j (by omega)
  · have hne : ord j ≠ ord i := fun z => absurd (ord_inj j hj2 i hi z) (by omega)
    rw [pk_un hne]
    exact h2 j (by omega) hj2
theorem sl_zero {fl sm : Nat → Int32} {i : Nat} (hi : i < 19) (h : sl fl sm i) : sl fl (upd sm (ord i) 0) (i + 1) := by
  obtain ⟨h1, h2⟩ := h
  refine ⟨fun j hj => ?_, fun j hj hj2 => h2 j (by omega) hj2⟩
  by_cases c : j = i
  · subst c
    exact ⟨0, by omega, h2 j (Nat.le_refl _) hi, pk_us⟩
  · have hne : ord j ≠ ord i := fun z => c (ord_inj j (by omega) i hi z)
    rw [pk_un hne]
    exact h1 j (by omega)
/-- the reference's loop behind the last small length that is told: zeros -/
theorem rl_zeros {g fl ln rw_ : Nat → Int32} {n N c : Nat} {x1 x2 p : Int32} (hc : c ≤ 15) : ∀ (d i : Nat) (sm : Nat → Int32) (M : Nat), i + d = 19 → c + 4 ≤ i → d < M → sl fl sm i →
    ∃ (sm' : Nat → Int32) (M' : Nat), 0 < M' ∧ g_Mo_readLengths_L1 N (nI n) 8192 g 19 320 320 M x1 x2 (nI c) (nI i) 0 p sm ln rw_ = g_Mo_readLengths_L1 N (nI n) 8192 g 19 320 320 M' x1 x2 (nI c) (nI 19) 0 p sm' ln rw_ ∧ sl fl sm' 19 := by
  intro d
  induction d with
  | zero =>
    intro i sm M hi hci hM hs
    have e : i = 19 := by omega
    subst e
    exact ⟨sm, M, by omega, rfl, hs⟩
  | succ d ih =>
    intro i sm M hi hci hM hs
    obtain ⟨m, rfl⟩ := succ_of hM
    have ho := ord_lt i (by omega)
    obtain ⟨sm', M', h1, h2, h3⟩ := ih (i + 1) (upd sm (ord i) 0) m (by omega) (by omega) (by omega) (sl_zero (by omega) hs)
    refine ⟨sm', M', h1, ?_, h3⟩
    rw [← h2, g_Mo_readLengths_L1, if_neg (show ¬ (19 : Int32) ≤ nI i from nI_ge (b := 19) (by omega) (by omega)), so_ok i (by omega), Option.bind_some, ho.2, z_4, nI_add, if_pos (nI_le hci (by omega))]
    have := ho.1
    simp (disch := omega) only [g_Mo_readLengths_J3, z_0, nI_ltI, nI_clamp, if_neg, nI_1]
theorem small_loop {f g ln rw_ : Nat → Int32} {n N c : Nat} {x1 x2 : Int32} {lc ls : Nat → Int32} {lk ll : Int32} (h : rb f g n) (hn : n ≤ 8192) (hN : 100000 ≤ N) (hc : c ≤ 15) : ∀ (d i p : Nat) (fl sm : Nat → Int32) (M M' : Nat), i + d = c + 4 → d < M → 19 < M' + i → p ≤ 8 * n → sl fl sm i →
    (∃ (p' : Nat) (fl' sm' : Nat → Int32) (M2 : Nat), 0 < M2 ∧ (p ≤ p' ∧ p' ≤ 8 * n) ∧ sl fl' sm' 19 ∧ g_Unpacker_readLengthCodes_L1 N (nI n) 9000 f 316 16 288 M (nI c) (nI i) (nI p) fl lc lk ll ls = g_Unpacker_readLengthCodes_J1 N 316 16 288 (nI p') fl' lc lk ll ls ∧ g_Mo_readLengths_L1 N (nI n) 8192 g 19 320 320 M' x1 x2 (nI c) (nI i) 0 (nI p) sm ln rw_ = g_Mo_readLengths_L1 N (nI n) 8192 g 19 320 320 M2 x1 x2 (nI c) (nI 19) 0 (nI p') sm' ln rw_) ∨
    (∃ (fl' sm' : Nat → Int32), g_Unpacker_readLengthCodes_L1 N (nI n) 9000 f 316 16 288 M (nI c) (nI i) (nI p) fl lc lk ll ls = some (2, nI (8 * n), fl', lc, lk, ll, ls) ∧ g_Mo_readLengths_L1 N (nI n) 8192 g 19 320 320 M' x1 x2 (nI c) (nI i) 0 (nI p) sm ln rw_ = some (2, nI (8 * n), sm', ln, rw_)) := by
  intro d
  induction d with
  | zero =>
    intro i p fl sm M M' hi hM hM' hp hs
    obtain ⟨m, rfl⟩ := succ_of hM
    obtain ⟨sm', M2, h1, h2, h3⟩ := rl_zeros (g := g) (n := n) (N := N) (ln := ln) (rw_ := rw_) (x1 := x1) (x2 := x2) (p := nI p) hc (19 - i) i sm M' (by omega) (by omega) (by omega) hs
    refine Or.inl ⟨p, fl, sm', M2, h1, ⟨Nat.le_refl _, hp⟩, h3, ?_, h2⟩
    rw [g_Unpacker_readLengthCodes_L1, z_4, nI_add, if_pos (nI_le (by omega) (by omega))]
  | succ d ih =>
    intro i p fl sm M M' hi hM hM' hp hs
    obtain ⟨m, rfl⟩ := succ_of hM
    obtain ⟨m', rfl⟩ := succ_of (show 0 < M' by omega)
    have ho := ord_lt i (by omega)
    have ho1 := ho.1
    have hti : tabS i = nI (ord i) := ho.2
    by_cases c1 : p + 3 ≤ 8 * n
    · have e1 := nextNumber_in (N := N) h (show n ≤ 9000 by omega) hN (show 3 ≤ 16 by decide) c1
      have e2 := number_in (N := N) h hn hN (show 3 ≤ 16 by decide) c1
      have hv := numOf3 g p
      generalize numOf g p 3 = v at e1 e2 hv
      have q := ih (i + 1) (p + 3) (upd fl (ord i) (nI v)) (upd sm (ord i) (nI v)) m m' (by omega) (by omega) (by omega) c1 (sl_put (by omega) hv hs)
      have ec : g_Unpacker_readLengthCodes_L1 N (nI n) 9000 f 316 16 288 (m + 1) (nI c) (nI i) (nI p) fl lc lk ll ls = g_Unpacker_readLengthCodes_L1 N (nI n) 9000 f 316 16 288 m (nI c) (nI (i + 1)) (nI (p + 3)) (upd fl (ord i) (nI v)) lc lk ll ls := by
        rw [g_Unpacker_readLengthCodes_L1, z_4, nI_add, if_neg (nI_ge (by omega) (by omega)), if_neg (show ¬ (19 : Int32) ≤ nI i from nI_ge (b := 19) (by omega) (by omega)), z_3, e1, Option.bind_some]
        dsimp only
        rw [if_pos (nI_pos' (by omega)), nI_clamp (by omega), hti]
        simp (disch := omega) only [z_0, nI_ltI, nI_clamp, if_neg, nI_1]
      have er : g_Mo_readLengths_L1 N (nI n) 8192 g 19 320 320 (m' + 1) x1 x2 (nI c) (nI i) 0 (nI p) sm ln rw_ = g_Mo_readLengths_L1 N (nI n) 8192 g 19 320 320 m' x1 x2 (nI c) (nI (i + 1)) 0 (nI (p + 3)) (upd sm (ord i) (nI v)) ln rw_ := by
        rw [g_Mo_readLengths_L1, if_neg (show ¬ (19 : Int32) ≤ nI i from nI_ge (b := 19) (by omega) (by omega)), so_ok i (by omega), Option.bind_some, ho.2, z_4, nI_add, if_neg (nI_ge (by omega) (by omega)), z_3, e2, Option.bind_some]
        simp (disch := omega) only [g_Mo_readLengths_J3, z_0, nI_ltI, nI_clamp, if_neg, nI_1]
      rw [ec, er]
      rcases q with ⟨p', fl', sm', M2, w1, w2, w3⟩ | q
      · exact Or.inl ⟨p', fl', sm', M2, w1, ⟨by omega, w2.2⟩, w3⟩
      · exact Or.inr q
    · have e1 := nextNumber_out (f := f) (N := N) (show n ≤ 9000 by omega) (show 3 ≤ 16 by decide) hp (by omega)
      have e2 := number_short (N := N) h hn hN (show 3 ≤ 16 by decide) hp (by omega)
      obtain ⟨sm', e3⟩ := rl_L1_off (g := g) (n := n) (ln := ln) (rw_ := rw_) (x1 := x1) (x2 := x2) (x3 := nI c) (p := nI (8 * n)) (show ¬ (2 : Int32) = 0 by decide) hN (19 - (i + 1)) (i + 1) (upd sm (ord i) (nI (numOf g p (8 * n - p)))) m' (by omega) (by omega)
      refine Or.inr ⟨fl, sm', ?_, ?_⟩
      · rw [g_Unpacker_readLengthCodes_L1, z_4, nI_add, if_neg (nI_ge (by omega) (by omega)), if_neg (show ¬ (19 : Int32) ≤ nI i from nI_ge (b := 19) (by omega) (by omega)), z_3, e1, Option.bind_some]
        rfl
      · rw [← e3, g_Mo_readLengths_L1, if_neg (show ¬ (19 : Int32) ≤ nI i from nI_ge (b := 19) (by omega) (by omega)), so_ok i (by omega), Option.bind_some, ho.2, z_4, nI_add, if_neg (nI_ge (by omega) (by omega)), z_3, e2, Option.bind_some]
        simp (disch := omega) only [g_Mo_readLengths_J3, z_0, nI_ltI, nI_clamp, if_neg, nI_1]
