theorem take_loop (go : Nat → Int32) (t : Nat) (ht : t ≤ 8192) : ∀ (d i : Nat) (g : Nat → Int32) (M : Nat), i + d = t → d < M → (∀ k, k < i → g k = go k) → ∃ g', g_Mo_take_L1 9000 go 8192 M (nI i) (nI t) g = some (nI t, nI t, g') ∧ ∀ k, k < t → g' k = go k := by
  intro d
  induction d with
  | zero =>
    intro i g M hi hM hg
    obtain ⟨m, rfl⟩ := succ_of hM
    refine ⟨g, ?_, fun k hk => hg k (by omega)⟩
    simp (disch := omega) only [g_Mo_take_L1, nI_leI, if_pos]
  | succ d ih =>
    intro i g M hi hM hg
    obtain ⟨m, rfl⟩ := succ_of hM
    obtain ⟨g', e, hg'⟩ := ih (i + 1) (upd g i (go i)) m (by omega) (by omega) (fun k hk => by
      by_cases q : k = i
      · subst q; rw [pk_us]
      · rw [pk_un q]; exact hg k (by omega))
    refine ⟨g', ?_, hg'⟩
    simp (disch := omega) only [g_Mo_take_L1, z_0, nI_leI, nI_ltI, nI_clamp, if_neg, nI_1]
    exact e
theorem op_take {fi gi fo go : Nat → Int32} {m N : Nat} (hm : m ≤ 9000) (h : rb fo go m) (hN : 100000 ≤ N) (ci mi : Int32) : ∃ (t : Nat) (f' g' : Nat → Int32), t ≤ 8192 ∧ g_Bp_take_0 (nI m) 9000 fo 9000 ci fi = some (nI t, nI t, f') ∧ g_Mo_take_0 N (nI m) 9000 go 8192 mi gi = some (nI t, nI t, g') ∧ rb f' g' t := by
  obtain ⟨t, ht, htm, e1, e2⟩ : ∃ t : Nat, t ≤ 8192 ∧ t ≤ m ∧ (if (8192 : Int32) < nI m then (8192 : Int32) else nI m) = nI t ∧ g_Mo_take_0 N (nI m) 9000 go 8192 mi gi = g_Mo_take_L1 9000 go 8192 N (nI 0) (nI t) gi := by
    by_cases c : 8192 ≤ m
    · refine ⟨8192, Nat.le_refl _, c, ?_, ?_⟩
      · by_cases c2 : m = 8192
        · subst c2; rfl
        · simp (disch := omega) only [z_8192, nI_ltI, if_pos]
      · simp (disch := omega) only [g_Mo_take_0, z_8192, nI_leI, if_pos] <;> rfl
    · refine ⟨m, by omega, Nat.le_refl _, ?_, ?_⟩
      · simp (disch := omega) only [z_8192, nI_ltI, if_neg]
      · simp (disch := omega) only [g_Mo_take_0, z_8192, nI_leI, if_neg] <;> rfl
  obtain ⟨g', e3, hg⟩ := take_loop go t ht t 0 gi N (by omega) (by omega) (fun k hk => absurd hk (Nat.not_lt_zero k))
  refine ⟨t, va_cpy fo fi 0 0 t, g', ht, ?_, by rw [e2]; exact e3, ?_⟩
  · rw [g_Bp_take_0, e1]
    have z : (0 : Int32).toNatClampNeg = 0 := by decide
    rw [z, nI_clamp (by omega), if_neg (by
      intro q
      rcases q with q | q | q | q | q
      · exact absurd q (by decide)
      · exact absurd q (by decide)
      · exact nI_pos (by omega) q
      · omega
      · omega), if_pos (fun i hi => by
      obtain ⟨b, hb, -, eb⟩ := h i (by omega)
      rw [Nat.zero_add, eb]
      exact lo8_fit b)]
  · intro i hi
    obtain ⟨b, hb, q1, q2⟩ := h i (by omega)
    refine ⟨b, hb, by rw [hg i hi]; exact q1, ?_⟩
    rw [pk_cpy_in (Nat.zero_le _) (by omega)]
    rw [show 0 + (i - 0) = i by omega]
    exact q2
theorem op_size (a b x : Int32) : ∃ v : Int32, g_Bp_size_0 b a x = some v ∧ g_Mo_size_0 a b x = some v := by
  rw [g_Bp_size_0, g_Mo_size_0]
  by_cases c1 : x = 0
  · exact ⟨a, if_pos c1, if_pos c1⟩
  · by_cases c2 : x = 1
    · exact ⟨b, by rw [if_neg c1, if_pos c2], by rw [if_neg c1, if_pos c2]⟩
    · exact ⟨-2, by rw [if_neg c1, if_neg c2], by rw [if_neg c1, if_neg c2]⟩
theorem at_one {f g : Nat → Int32} {n k : Nat} (hk : n ≤ k) (hn : n ≤ 9000) (h : rb f g n) (x : Int32) : ∃ v : Int32, g_Row_byteAt_0 (nI n) 9000 f x = some v ∧ (if x < 0 then some (-1 : Int32) else (if nI n ≤ x then some (-1 : Int32) else (if x < 0 ∨ k ≤ x.toNatClampNeg then none else some (g x.toNatClampNeg)))) = some v := by
  rcases pk_ix x (n := n) (by omega) with q | q | ⟨s, hs, rfl⟩
  · exact ⟨-1, Row_byteAt_out (Or.inl q), if_pos q⟩
  · refine ⟨-1, Row_byteAt_out (Or.inr q), ?_⟩
    by_cases c : x < 0
    · exact if_pos c
    · rw [if_neg c, if_pos q]
  · refine ⟨g s, Row_byteAt_in h hn hs, ?_⟩
    simp (disch := omega) only [z_0, nI_ltI, nI_leI, nI_clamp, if_neg]
theorem op_at {f g fo go : Nat → Int32} {n m : Nat} (hn : n ≤ 8192) (hm : m ≤ 9000) (h : rb f g n) (ho : rb fo go m) (w x : Int32) : ∃ v : Int32, g_Bp_at_0 (nI m) 9000 fo (nI n) 9000 f w x = some v ∧ g_Mo_at_0 (nI n) (nI m) 9000 go 8192 g w x = some v := by
  rw [g_Bp_at_0, g_Mo_at_0]
  by_cases c1 : w = 0
  · obtain ⟨v, e1, e2⟩ := at_one (k := 8192) hn (by omega) h x
    exact ⟨v, by rw [if_pos c1, e1]; rfl, by rw [if_pos c1]; exact e2⟩
  · rw [if_neg c1, if_neg c1]
    by_cases c2 : w = 1
    · obtain ⟨v, e1, e2⟩ := at_one (k := 9000) hm hm ho x
      exact ⟨v, by rw [if_pos c2, e1]; rfl, by rw [if_pos c2]; exact e2⟩
    · exact ⟨-1, if_neg c2, if_neg c2⟩
/-- what is told: the reference's row and the class's fields -/
def tr (t : Nat → Int32) (st fx md ma si bl um : Int32) : Prop := t 0 = st + fx + md ∧ t 1 = st ∧ t 2 = fx ∧ t 3 = md ∧ t 4 = ma ∧ t 5 = si ∧ t 6 = bl ∧ t 7 = um
theorem op_told {t : Nat → Int32} {st fx md ma si bl um : Int32} (h : tr t st fx md ma si bl um) (x : Int32) : ∃ v : Int32, g_Bp_told_0 bl um st fx md ma si x = some v ∧ g_Mo_told_0 8 t x = some v := by
  obtain ⟨h0, h1, h2, h3, h4, h5, h6, h7⟩ := h
  rw [g_Mo_told_0, g_Bp_told_0]
  by_cases c1 : x < 0
  · refine ⟨-2, if_pos (Or.inl ?_), if_pos c1⟩
    rw [Int32.lt_iff_toInt_lt] at c1
    have e0 : (0 : Int32).toInt = 0 := by decide
    omega
  by_cases c2 : x ≤ 7
  · obtain ⟨j, -, hj, rfl⟩ := i32_in 0 7 (by decide) c1 c2
    rw [if_neg (by rw [nI_toInt (by omega)]; omega), if_neg c1, if_pos c2]
    rcases (show j = 0 ∨ j = 1 ∨ j = 2 ∨ j = 3 ∨ j = 4 ∨ j = 5 ∨ j = 6 ∨ j = 7 by omega) with rfl | rfl | rfl | rfl | rfl | rfl | rfl | rfl
    · exact ⟨_, rfl, congrArg some h0⟩
    · exact ⟨_, rfl, congrArg some h1⟩
    · exact ⟨_, rfl, congrArg some h2⟩
    · exact ⟨_, rfl, congrArg some h3⟩
    · exact ⟨_, rfl, congrArg some h4⟩
    · exact ⟨_, rfl, congrArg some h5⟩
    · exact ⟨_, rfl, congrArg some h6⟩
    · exact ⟨_, rfl, congrArg some h7⟩
  · refine ⟨-2, if_pos (Or.inr ?_), by rw [if_neg c1, if_neg c2]⟩
    rw [Int32.le_iff_toInt_le] at c2
    have e7 : (7 : Int32).toInt = 7 := by decide
    omega
/-- the lengths of codes of the last block packed -/
def lr (la ms md : Nat → Int32) : Prop := (∀ k, k < 286 → la k = ms k) ∧ ∀ k, k < 30 → la (288 + k) = md k
theorem op_length {la ms md : Nat → Int32} (h : lr la ms md) (x y : Int32) : ∃ v : Int32, g_Bp_length_0 288 ms 288 md x y = some v ∧ g_Mo_length_0 320 la x y = some v := by
  rw [g_Bp_length_0, g_Mo_length_0]
  by_cases c1 : x = 0
  · subst c1
    rw [if_pos rfl, if_neg (show ¬ (0 : Int32) < 0 by decide), if_neg (show ¬ (1 : Int32) < 0 by decide)]
    rcases pk_ix y (n := 286) (by omega) with q | q | ⟨s, hs, rfl⟩
    · exact ⟨-2, by rw [if_pos q, g_Bp_length_J1, if_neg (show ¬ (0 : Int32) = 1 by decide)], by rw [if_pos q]⟩
    · have q : (286 : Int32) ≤ y := q
      refine ⟨-2, ?_, ?_⟩
      · by_cases c : y < 0
        · rw [if_pos c, g_Bp_length_J1, if_neg (show ¬ (0 : Int32) = 1 by decide)]
        · rw [if_neg c, if_pos q, g_Bp_length_J1, if_neg (show ¬ (0 : Int32) = 1 by decide)]
      · by_cases c : y < 0
        · rw [if_pos c]
        · rw [if_neg c, if_pos rfl, g_Mo_length_J1, if_neg (by
            rw [Int32.le_iff_toInt_le] at q ⊢
            have e6 : (286 : Int32).toInt = 286 := by decide
            have e7 : (285 : Int32).toInt = 285 := by decide
            omega)]
    · refine ⟨ms s, ?_, ?_⟩
      · simp (disch := omega) only [z_286, z_0, nI_ltI, nI_leI, nI_clamp, if_neg]
      · rw [if_neg (nI_pos (by omega)), if_pos rfl]
        simp (disch := omega) only [g_Mo_length_J1, z_285, z_288, z_0, pk_mul, nI_add, nI_ltI, nI_leI, nI_clamp, if_neg, if_pos, Nat.mul_zero, Nat.zero_add]
        rw [h.1 s hs]
  · rw [if_neg c1, g_Bp_length_J1]
    by_cases c2 : x = 1
    · subst c2
      rw [if_pos rfl, if_neg (show ¬ (1 : Int32) < 0 by decide), if_neg (show ¬ (1 : Int32) < 1 by decide)]
      rcases pk_ix y (n := 30) (by omega) with q | q | ⟨s, hs, rfl⟩
      · exact ⟨-2, by rw [if_pos q], by rw [if_pos q]⟩
      · have q : (30 : Int32) ≤ y := q
        refine ⟨-2, ?_, ?_⟩
        · by_cases c : y < 0
          · rw [if_pos c]
          · rw [if_neg c, if_pos q]
        · by_cases c : y < 0
          · rw [if_pos c]
          · rw [if_neg c, if_neg (show ¬ (1 : Int32) = 0 by decide), g_Mo_length_J1, if_neg (by
              rw [Int32.le_iff_toInt_le] at q ⊢
              have e6 : (30 : Int32).toInt = 30 := by decide
              have e7 : (29 : Int32).toInt = 29 := by decide
              omega)]
      · refine ⟨md s, ?_, ?_⟩
        · simp (disch := omega) only [z_30, z_0, nI_ltI, nI_leI, nI_clamp, if_neg]
        · rw [if_neg (nI_pos (by omega)), if_neg (show ¬ (1 : Int32) = 0 by decide)]
          simp (disch := omega) only [g_Mo_length_J1, z_29, z_288, z_1, z_0, pk_mul, nI_add, nI_ltI, nI_leI, nI_clamp, if_neg, if_pos, Nat.mul_one]
          rw [h.2 s hs]
    · refine ⟨-2, if_neg c2, ?_⟩
      by_cases c3 : x < 0
      · rw [if_pos c3]
      · rw [if_neg c3, if_pos (by
          rw [Int32.lt_iff_toInt_lt] at c3 ⊢
          have e0 : (0 : Int32).toInt = 0 := by decide
          have e1 : (1 : Int32).toInt = 1 := by decide
          have n0 : x.toInt ≠ 0 := fun z => c1 (Int32.toInt_inj.mp (z.trans e0.symm))
          have n1 : x.toInt ≠ 1 := fun z => c2 (Int32.toInt_inj.mp (z.trans e1.symm))
          omega)]
