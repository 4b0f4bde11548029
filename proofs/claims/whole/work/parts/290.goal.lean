theorem g_law_ok (L : Nat) (xs : Nat → Int32) (hL : L ≤ 2048) : ∃ N : Nat, g_Law_law_0 N L xs = some 1 := by
  refine ⟨100000, ?_⟩
  obtain ⟨l1, l2, fsl, fst, fdt, fdl, c1, y1, c2, y2, k1, t1, k2, t2, h1, h2, h3, h4, h5, h6, e⟩ := init_ok (N := 100000) (Nat.le_refl _)
  rw [g_Law_law_0, e, Option.bind_some, g_Mo_init_0, Option.bind_some]
  exact law_loop (Nat.le_refl _) hL 512 0 _ _ _ _ _ _ _ _ _ _ _ _ _ _ _ _ _ _ _ _ _ _ _ _ _ _ _ _ _ _ _ _ _ _ _ _ _ _ _ _ _ _ _ _ _ _ _ _ _ _ _ _ _ _ _ _ _ _ _ _ _ _ _ _ _ _ _ _ _ _ _ _ _ _ _ _ _ _ _ _ _ _ _ _ _ _ _ _ _ _ _ _ _ 100000 (by omega) (by omega) (by omega) ⟨⟨0, by omega, rfl, rfl, fun i hi => absurd hi (Nat.not_lt_zero i)⟩, ⟨0, by omega, rfl, rfl, fun i hi => absurd hi (Nat.not_lt_zero i)⟩, ⟨rfl, rfl, rfl, rfl, rfl, rfl, rfl, rfl⟩, ⟨fun k hk => rfl, fun k hk => rfl⟩, rfl, ⟨h1, h2, h3, h4⟩, ⟨⟨l1, h5⟩, ⟨l2, h6⟩⟩⟩
