theorem op_fillJ {f g : Nat → Int32} {n N : Nat} (hn : n ≤ 8192) (h : rb f g n) (hN : 100000 ≤ N) (kd seed : Int32) (kk : Nat) (h1 : 1 ≤ kk) (h2 : kk ≤ 8192) (hk : kd = 0 ∨ kd = 1 ∨ kd = 2 ∨ kd = 3) (h3 : kd = 3 → ∃ s : Nat, seed = nI s ∧ s < n) :
    ∃ r r', g_Bp_fill_J1 N 9000 kd seed (nI kk) f (nI n) = some r ∧ g_Mo_fill_J1 N 8192 kd seed (nI kk) g (nI n) = some r' ∧ r.1 = r'.1 ∧ ∃ m : Nat, m ≤ 8192 ∧ r.2.2 = nI m ∧ r'.2.2 = nI m ∧ rb r.2.1 r'.2.1 m := by
  by_cases c3 : n + kk ≤ 8192
  · obtain ⟨f', g', e1, e2, h'⟩ := fill_loop kd seed kk h2 hk kk 0 n seed f g N N (by omega) c3 (by omega) (by omega) h (fun q => by
      obtain ⟨s, hs, hl⟩ := h3 q
      exact ⟨s, hs, by omega⟩)
    refine ⟨(nI (n + kk), f', nI (n + kk)), (nI (n + kk), g', nI (n + kk)), ?_, ?_, rfl, n + kk, c3, rfl, rfl, h'⟩
    · simp (disch := omega) only [g_Bp_fill_J1, z_8192, pk_sub, nI_leI, if_pos]
      exact e1
    · simp (disch := omega) only [g_Mo_fill_J1, z_8192, nI_add, nI_leI, if_pos]
      exact e2
  · refine ⟨(-3, f, nI n), (-3, g, nI n), ?_, ?_, rfl, n, hn, rfl, rfl, h⟩
    · simp (disch := omega) only [g_Bp_fill_J1, z_8192, pk_sub, nI_leI, if_neg]
    · simp (disch := omega) only [g_Mo_fill_J1, z_8192, nI_add, nI_leI, if_neg]
theorem op_fill {f g : Nat → Int32} {n N : Nat} (hn : n ≤ 8192) (h : rb f g n) (hN : 100000 ≤ N) (kd seed k : Int32) : ∃ r r', g_Bp_fill_0 N 9000 kd seed k f (nI n) = some r ∧ g_Mo_fill_0 N 8192 kd seed k g (nI n) = some r' ∧ r.1 = r'.1 ∧ ∃ m : Nat, m ≤ 8192 ∧ r.2.2 = nI m ∧ r'.2.2 = nI m ∧ rb r.2.1 r'.2.1 m := by
  rw [g_Bp_fill_0, g_Mo_fill_0]
  by_cases c1 : kd < 0
  · exact ⟨_, _, if_pos c1, if_pos c1, rfl, n, hn, rfl, rfl, h⟩
  rw [if_neg c1, if_neg c1]
  by_cases c2 : 3 < kd
  · exact ⟨_, _, if_pos c2, if_pos c2, rfl, n, hn, rfl, rfl, h⟩
  rw [if_neg c2, if_neg c2]
  by_cases c3 : k < 1
  · exact ⟨_, _, if_pos c3, if_pos c3, rfl, n, hn, rfl, rfl, h⟩
  rw [if_neg c3, if_neg c3]
  by_cases c4 : k ≤ 8192
  · rw [if_pos c4, if_neg (i32_nlt c4)]
    obtain ⟨kk, h1, h2, rfl⟩ := i32_in 1 8192 (by decide) c3 c4
    obtain ⟨j, -, hj, rfl⟩ := i32_in 0 3 (by decide) c1 (i32_le c2)
    by_cases c5 : nI j = 3
    · rw [if_pos c5, if_pos c5]
      rcases pk_ix seed (n := n) (by omega) with q | q | ⟨s, hs, rfl⟩
      · rw [g_Row_has_0, if_pos q, if_pos q]
        exact ⟨(-2, f, nI n), (-2, g, nI n), rfl, rfl, rfl, n, hn, rfl, rfl, h⟩
      · have q0 : ¬ seed < 0 := fun z => by
          rw [Int32.le_iff_toInt_le, nI_toInt (by omega)] at q
          rw [Int32.lt_iff_toInt_lt] at z
          have e0 : (0 : Int32).toInt = 0 := by decide
          omega
        rw [g_Row_has_0, if_neg q0, if_pos q, if_neg q0, if_neg (i32_nlt q)]
        exact ⟨(-2, f, nI n), (-2, g, nI n), rfl, rfl, rfl, n, hn, rfl, rfl, h⟩
      · rw [g_Row_has_0, if_neg (nI_pos (by omega)), if_neg (nI_ge hs (by omega)), if_neg (nI_pos (by omega)), if_pos (nI_lt hs (by omega))]
        rw [Option.bind_some, if_neg (by decide)]
        exact op_fillJ hn h hN (nI j) (nI s) kk h1 h2 (Or.inr (Or.inr (Or.inr c5))) (fun _ => ⟨s, rfl, hs⟩)
    · rw [if_neg c5, if_neg c5]
      refine op_fillJ hn h hN (nI j) seed kk h1 h2 ?_ (fun q => absurd q c5)
      rcases (show j = 0 ∨ j = 1 ∨ j = 2 ∨ j = 3 by omega) with rfl | rfl | rfl | rfl
      · exact Or.inl rfl
      · exact Or.inr (Or.inl rfl)
      · exact Or.inr (Or.inr (Or.inl rfl))
      · exact absurd rfl c5
  · rw [if_neg c4, if_pos (i32_lt c4)]
    exact ⟨(-2, f, nI n), (-2, g, nI n), rfl, rfl, rfl, n, hn, rfl, rfl, h⟩
theorem op_set {f g : Nat → Int32} {n : Nat} (hn : n ≤ 8192) (h : rb f g n) (i v : Int32) : ∃ r r', g_Bp_set_0 (nI n) 9000 i v f = some r ∧ g_Mo_set_0 (nI n) 8192 i v g = some r' ∧ r.1 = r'.1 ∧ rb r.2 r'.2 n := by
  rcases pk_ix i (n := n) (by omega) with q | q | ⟨s, hs, rfl⟩
  · refine ⟨(-1, f), (-1, g), ?_, ?_, rfl, h⟩
    · rw [g_Bp_set_0, Row_byteAt_out (Or.inl q), g_Row_has_0, if_pos q]; rfl
    · rw [g_Mo_set_0, if_pos q]
  · have q0 : ¬ i < 0 := fun z => by
      rw [Int32.le_iff_toInt_le, nI_toInt (by omega)] at q
      rw [Int32.lt_iff_toInt_lt] at z
      have e0 : (0 : Int32).toInt = 0 := by decide
      omega
    refine ⟨(-1, f), (-1, g), ?_, ?_, rfl, h⟩
    · rw [g_Bp_set_0, Row_byteAt_out (Or.inr q), g_Row_has_0, if_neg q0, if_pos q]; rfl
    · rw [g_Mo_set_0, if_neg q0, if_neg (i32_nlt q)]
  · obtain ⟨b, hb, e1, e2⟩ := lo8 v
    refine ⟨(g s, upd f s (sb_b b)), (g s, upd g s (nI b)), ?_, ?_, rfl, rb_set h hb rfl rfl⟩
    · rw [g_Bp_set_0, Row_byteAt_in h (by omega) hs, g_Row_has_0, if_neg (nI_pos (by omega)), if_neg (nI_ge hs (by omega))]
      simp (disch := omega) only [Option.bind_some, z_1, z_0, nI_eq, nI_ltI, nI_clamp, if_neg, pk_vb, e2, nar_sb]
    · rw [g_Mo_set_0, if_neg (nI_pos (by omega)), if_pos (nI_lt hs (by omega)), e1]
      simp (disch := omega) only [z_0, nI_ltI, nI_clamp, if_neg]
theorem op_cut {n : Nat} (hn : n ≤ 8192) (k : Int32) : ∃ (v : Int32) (m : Nat), m ≤ n ∧ g_Bp_cut_0 k (nI n) = some (v, nI m) ∧ g_Mo_cut_0 k (nI n) = some (v, nI m) := by
  rw [g_Bp_cut_0, g_Mo_cut_0]
  by_cases c1 : k < 0
  · exact ⟨-2, n, Nat.le_refl _, if_pos c1, if_pos c1⟩
  rw [if_neg c1]
  by_cases c2 : k ≤ nI n
  · obtain ⟨j, -, hj, rfl⟩ := i32_in 0 n (by omega) c1 c2
    exact ⟨_, j, hj, if_pos c2, if_pos c2⟩
  · exact ⟨-2, n, Nat.le_refl _, if_neg c2, if_neg c2⟩
