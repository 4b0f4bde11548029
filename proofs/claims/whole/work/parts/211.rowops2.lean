theorem ush16 (y : Int32) : ((y.toUInt32 >>> ((16 : Int32).toUInt32 &&& Int32.toUInt32 31)).toInt32) &&& 255 = (y >>> ((16 : Int32) &&& 31)) &&& 255 := by
  apply b_ext
  intro i hi
  rw [b_and, b_and, z_16, b_ushr 16 (by decide), b_sshr 16 (by decide) _ hi, b_255]
  by_cases h8 : i < 8
  · rw [if_pos (by omega)]
  · simp [h8]
theorem ush16_3 (y : Int32) : ((y.toUInt32 >>> ((16 : Int32).toUInt32 &&& Int32.toUInt32 31)).toInt32) &&& 3 = (y >>> ((16 : Int32) &&& 31)) &&& 3 := by
  apply b_ext
  intro i hi
  have m3 : ∀ i, i < 32 → bt 3 i = decide (i < 2) := by decide +kernel
  rw [b_and, b_and, z_16, b_ushr 16 (by decide), b_sshr 16 (by decide) _ hi, m3 i hi]
  by_cases h8 : i < 2
  · rw [if_pos (by omega)]
  · simp [h8]
theorem Row_byteAt_in {f g : Nat → Int32} {n i : Nat} (h : rb f g n) (hn : n ≤ 9000) (hi : i < n) : g_Row_byteAt_0 (nI n) 9000 f (nI i) = some (g i) := by
  obtain ⟨b, hb, e1, e2⟩ := h i hi
  simp (disch := omega) only [g_Row_byteAt_0, z_0, nI_ltI, nI_leI, nI_clamp, if_neg, e2]
  rw [lo8_and hb, e1]
theorem Row_byteAt_out {f : Nat → Int32} {n : Nat} {x : Int32} (h : x < 0 ∨ nI n ≤ x) : g_Row_byteAt_0 (nI n) 9000 f x = some (-1) := by
  rw [g_Row_byteAt_0]
  by_cases c : x < 0
  · rw [if_pos c]
  · rw [if_neg c, if_pos (h.resolve_left c)]
theorem fill_val {kd seed y : Int32} {f g : Nat → Int32} {n j : Nat} (hj : j < 8192) (hn : n ≤ 8192) (h : rb f g n) (hk : kd = 0 ∨ kd = 1 ∨ kd = 2 ∨ kd = 3) (h3 : kd = 3 → ∃ s : Nat, seed = nI s ∧ s + j < n) :
    ∃ (v : Int32) (b : Nat), b < 256 ∧ g_Bp_filling_0 (nI n) 9000 f kd seed y (nI j) = some v ∧ v.toInt8.toInt32 = sb_b b ∧
      (kd = 0 → seed &&& 255 = nI b) ∧ (kd = 1 → (y >>> ((16 : Int32) &&& 31)) &&& 255 = nI b) ∧ (kd = 2 → 97 + ((y >>> ((16 : Int32) &&& 31)) &&& 3) = nI b) ∧ (kd = 3 → ∀ s : Nat, seed = nI s → s + j < n → g (s + j) = nI b) := by
  rcases hk with rfl | rfl | rfl | rfl
  · obtain ⟨b, hb, e1, e2⟩ := lo8 seed
    exact ⟨seed, b, hb, rfl, e2, fun _ => e1, fun q => absurd q (by decide), fun q => absurd q (by decide), fun q => absurd q (by decide)⟩
  · obtain ⟨b, hb, e1, e2⟩ := lo8 ((y.toUInt32 >>> ((16 : Int32).toUInt32 &&& Int32.toUInt32 31)).toInt32)
    exact ⟨_, b, hb, rfl, e2, fun q => absurd q (by decide), fun _ => by rw [← ush16]; exact e1, fun q => absurd q (by decide), fun q => absurd q (by decide)⟩
  · obtain ⟨w, hw, e1⟩ := pk_andE ((y.toUInt32 >>> ((16 : Int32).toUInt32 &&& Int32.toUInt32 31)).toInt32) (m := 3) 2 (by decide)
    refine ⟨_, 97 + w, by omega, rfl, ?_, fun q => absurd q (by decide), fun q => absurd q (by decide), fun _ => ?_, fun q => absurd q (by decide)⟩
    · rw [e1, z_97, nI_add]; rfl
    · rw [← ush16_3, e1, z_97, nI_add]
  · obtain ⟨s, rfl, hs⟩ := h3 rfl
    obtain ⟨b, hb, e1, e2⟩ := h (s + j) hs
    refine ⟨g (s + j), b, hb, ?_, by rw [e1]; rfl, fun q => absurd q (by decide), fun q => absurd q (by decide), fun q => absurd q (by decide), fun _ t ht htn => ?_⟩
    · have hb1 := Row_byteAt_in h (by omega) hs
      rw [g_Bp_filling_0, nI_add, hb1]
      rfl
    · have : t = s := by
        have q := congrArg Int32.toNatClampNeg ht
        rw [nI_clamp (by omega), nI_clamp (by omega)] at q
        exact q.symm
      rw [this]; exact e1
theorem fill_loop (kd seed : Int32) (kk : Nat) (hkk : kk ≤ 8192) (hk : kd = 0 ∨ kd = 1 ∨ kd = 2 ∨ kd = 3) : ∀ (d j n : Nat) (x : Int32) (f g : Nat → Int32) (M M' : Nat), j + d = kk → n + d ≤ 8192 → d < M → d < M' → rb f g n → (kd = 3 → ∃ s : Nat, seed = nI s ∧ s + j < n) →
    ∃ f' g', g_Bp_fill_L1 9000 M kd seed (nI kk) x (nI j) f (nI n) = some (nI (n + d), f', nI (n + d)) ∧ g_Mo_fill_L1 8192 M' kd seed (nI kk) x (nI j) g (nI n) = some (nI (n + d), g', nI (n + d)) ∧ rb f' g' (n + d) := by
  intro d
  induction d with
  | zero =>
    intro j n x f g M M' hj hn hM hM' h h3
    obtain ⟨m, rfl⟩ := succ_of hM
    obtain ⟨m', rfl⟩ := succ_of hM'
    refine ⟨f, g, ?_, ?_, h⟩
    · simp (disch := omega) only [g_Bp_fill_L1, nI_leI, if_pos, Nat.add_zero]
    · simp (disch := omega) only [g_Mo_fill_L1, nI_leI, if_pos, Nat.add_zero]
  | succ d ih =>
    intro j n x f g M M' hj hn hM hM' h h3
    obtain ⟨m, rfl⟩ := succ_of hM
    obtain ⟨m', rfl⟩ := succ_of hM'
    obtain ⟨v, b, hb, ev, e2, k0, k1, k2, k3⟩ := fill_val (y := 1103515245 * x + 12345) (by omega) (by omega) h hk h3
    obtain ⟨f', g', e3, e4, h'⟩ := ih (j + 1) (n + 1) (1103515245 * x + 12345) (upd f n (sb_b b)) (upd g n (nI b)) m m' (by omega) (by omega) (by omega) (by omega) (rb_add h hb rfl rfl) (fun q => by
      obtain ⟨s, hs, hl⟩ := h3 q
      exact ⟨s, hs, by omega⟩)
    rw [show n + 1 + d = n + (d + 1) by omega] at e3 e4 h'
    refine ⟨f', g', ?_, ?_, h'⟩
    · simp (disch := omega) only [g_Bp_fill_L1, nI_leI, if_neg]
      rw [ev]
      simp (disch := omega) only [Option.bind_some, Row_add_in, e2, nI_1]
      exact e3
    · rw [g_Mo_fill_L1, if_neg (nI_ge (by omega) (by omega))]
      have key : g_Mo_fill_J2 8192 (g_Mo_fill_L1 8192 m') kd seed (nI kk) (1103515245 * x + 12345) (nI j) (nI b) (nI n) g (nI n) = some (nI (n + (d + 1)), g', nI (n + (d + 1))) := by
        simp (disch := omega) only [g_Mo_fill_J2, z_0, nI_ltI, nI_clamp, if_neg, nI_1]
        exact e4
      rcases hk with rfl | rfl | rfl | rfl
      · rw [if_pos rfl, k0 rfl]; exact key
      · rw [if_neg (by decide), if_pos rfl, k1 rfl]; exact key
      · rw [if_neg (by decide), if_neg (by decide), if_pos rfl, k2 rfl]; exact key
      · obtain ⟨s, rfl, hs⟩ := h3 rfl
        rw [if_neg (by decide), if_neg (by decide), if_neg (by decide), nI_add, if_neg (by rw [z_0, nI_ltI (by omega) (by omega), nI_clamp (by omega)]; omega), nI_clamp (by omega), k3 rfl s rfl hs]
        exact key
