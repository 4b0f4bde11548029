theorem fixlen : ∀ s, s < 288 → g_Bp_fixedLength_0 (nI s) = some (nI (fL s)) := by decide +kernel
theorem pi2_loop {N : Nat} {a1 a2 a3 a4 a5 a6 a7 a8 a9 a10 a11 a12 : Int32} {f t1 t2 : Nat → Int32} (hN : 100000 ≤ N) (hf : mt f 0 288 fL) : ∀ (d k : Nat) (f2 : Nat → Int32) (M : Nat), k + d = 32 → d < M → (∀ j, j < k → f2 j = nI 5) → (∀ j, k ≤ j → f2 j = 0) → ∃ f2' t1' t2', mt f2' 0 288 fD2 ∧ wk fL t1' ∧ wk fD2 t2' ∧ g_Packer_init_L2 N M (nI k) a1 a2 a3 a4 a5 a6 a7 a8 a9 a10 a11 a12 f t1 t2 f2 = some (a1, a2, a3, a4, a5, a6, a7, a8, a9, a10, a11, a12, f, t1', t2', f2') := by
  intro d
  induction d with
  | zero =>
    intro k f2 M hk hM h1 h2
    obtain ⟨q, rfl⟩ := succ_of hM
    have e : k = 32 := by omega
    subst e
    have hm : mt f2 0 288 fD2 := by
      intro s hs
      rw [Nat.zero_add]
      unfold fD2
      by_cases c : s < 32
      · rw [if_pos c, h1 s c]; exact ⟨rfl, by omega⟩
      · rw [if_neg c, h2 s (by omega)]; exact ⟨rfl, by omega⟩
    obtain ⟨t1', e1, w1⟩ := makeCodes_ok (ft := t1) hf hN
    obtain ⟨t2', e2, w2⟩ := makeCodes_ok (ft := t2) hm hN
    refine ⟨f2, t1', t2', hm, w1, w2, ?_⟩
    rw [g_Packer_init_L2, if_pos (show (32 : Int32) ≤ nI 32 by decide), e1, Option.bind_some, e2, Option.bind_some]
  | succ d ih =>
    intro k f2 M hk hM h1 h2
    obtain ⟨q, rfl⟩ := succ_of hM
    obtain ⟨f2', t1', t2', r1, r2, r3, r⟩ := ih (k + 1) (upd f2 k 5) q (by omega) (by omega) (fun j hj => by
      by_cases c : j = k
      · subst c; exact pk_us
      · rw [pk_un c]; exact h1 j (by omega)) (fun j hj => by rw [pk_un (by omega)]; exact h2 j (by omega))
    refine ⟨f2', t1', t2', r1, r2, r3, ?_⟩
    rw [← r, g_Packer_init_L2, if_neg (show ¬ (32 : Int32) ≤ nI k from nI_ge (b := 32) (by omega) (by omega)), if_neg (nI_in (by omega) (by omega)), nI_clamp (n := k) (by omega), nI_1]
theorem pi1_loop {N : Nat} {a1 a2 a3 a4 a5 a6 a7 a8 a9 a10 a11 a12 : Int32} {t1 t2 f2 : Nat → Int32} : ∀ (d k : Nat) (f : Nat → Int32) (M : Nat), k + d = 288 → d < M → (∀ j, j < k → f j = nI (fL j)) → ∃ f', mt f' 0 288 fL ∧ g_Packer_init_L1 N M (nI k) a1 a2 a3 a4 a5 a6 a7 a8 a9 a10 a11 a12 f t1 t2 f2 = g_Packer_init_L2 N N (nI 0) a1 a2 a3 a4 a5 a6 a7 a8 a9 a10 a11 a12 f' t1 t2 f2 := by
  intro d
  induction d with
  | zero =>
    intro k f M hk hM h1
    obtain ⟨q, rfl⟩ := succ_of hM
    have e : k = 288 := by omega
    subst e
    refine ⟨f, fun s hs => ?_, ?_⟩
    · rw [Nat.zero_add]; exact ⟨h1 s hs, fL_le s⟩
    · rw [g_Packer_init_L1, if_pos (show (288 : Int32) ≤ nI 288 by decide)]; rfl
  | succ d ih =>
    intro k f M hk hM h1
    obtain ⟨q, rfl⟩ := succ_of hM
    obtain ⟨f', r1, r⟩ := ih (k + 1) (upd f k (nI (fL k))) q (by omega) (by omega) (fun j hj => by
      by_cases c : j = k
      · subst c; exact pk_us
      · rw [pk_un c]; exact h1 j (by omega))
    refine ⟨f', r1, ?_⟩
    rw [← r, g_Packer_init_L1, if_neg (show ¬ (288 : Int32) ≤ nI k from nI_ge (b := 288) (by omega) (by omega)), fixlen k (by omega), Option.bind_some, if_neg (nI_in (by omega) (by omega)), nI_clamp (n := k) (by omega), nI_1]
theorem ui_loop {N : Nat} {a1 a2 a3 a4 a5 a6 a7 a8 a9 a10 a11 a12 a13 a14 a15 : Int32} {c1 y1 c2 y2 : Nat → Int32} (hN : 100000 ≤ N) : ∀ (d k : Nat) (f : Nat → Int32) (M : Nat), k + d = 288 → d < M → (∀ j, j < k → f j = nI (fL j)) → ∃ (l1 l2 : Nat) (k1 t1 k2 t2 : Int32) (c1' y1' c2' y2' : Nat → Int32), rc fL 288 l1 c1' y1' k1 t1 ∧ rc fD 32 l2 c2' y2' k2 t2 ∧ g_Unpacker_init_L1 N M (nI k) a1 a2 a3 a4 a5 a6 a7 a8 a9 a10 a11 a12 a13 a14 a15 c1 y1 f c2 y2 = some (k1, t1, k2, t2, a5, a6, a7, a8, a9, a10, a11, a12, a13, a14, a15, c1', y1', c2', y2') := by
  intro d
  induction d with
  | zero =>
    intro k f M hk hM h1
    obtain ⟨q, rfl⟩ := succ_of hM
    have e : k = 288 := by omega
    subst e
    have hm : mt f 0 288 fL := fun s hs => by rw [Nat.zero_add]; exact ⟨h1 s hs, fL_le s⟩
    obtain ⟨l1, c1', y1', e1, r1⟩ := make_ok (ct := c1) (sy := y1) (cd := a1) (lg := a2) hm (by omega) (show 288 ≤ 1000 by omega) (by omega) hN
    obtain ⟨f5, e5, h5⟩ := fill2_ok (n0 := 288) (v := 5) (f := f) (by omega) hN
    have hm2 : mt f5 0 32 fD := fun s hs => by rw [Nat.zero_add, h5 s (by omega)]; exact ⟨rfl, by unfold fD; omega⟩
    obtain ⟨l2, c2', y2', e2, r2⟩ := make_ok (ct := c2) (sy := y2) (cd := a3) (lg := a4) hm2 (by omega) (show 288 ≤ 1000 by omega) (by omega) hN
    refine ⟨l1, l2, _, _, _, _, c1', y1', c2', y2', r1, r2, ?_⟩
    have x1 : g_ReadCodes_make_0 N 16 288 f 288 0 288 c1 a1 a2 y1 = _ := e1
    have x2 : g_ReadCodes_make_0 N 16 288 f5 288 0 32 c2 a3 a4 y2 = _ := e2
    rw [g_Unpacker_init_L1, if_pos (show (288 : Int32) ≤ nI 288 by decide), x1, Option.bind_some, e5, Option.bind_some, x2, Option.bind_some]
  | succ d ih =>
    intro k f M hk hM h1
    obtain ⟨q, rfl⟩ := succ_of hM
    obtain ⟨l1, l2, k1, t1, k2, t2, c1', y1', c2', y2', r1, r2, r⟩ := ih (k + 1) (upd f k (nI (fL k))) q (by omega) (by omega) (fun j hj => by
      by_cases c : j = k
      · subst c; exact pk_us
      · rw [pk_un c]; exact h1 j (by omega))
    refine ⟨l1, l2, k1, t1, k2, t2, c1', y1', c2', y2', r1, r2, ?_⟩
    rw [← r, g_Unpacker_init_L1, if_neg (show ¬ (288 : Int32) ≤ nI k from nI_ge (b := 288) (by omega) (by omega)), fixlen k (by omega), Option.bind_some, if_neg (nI_in (by omega) (by omega)), nI_clamp (n := k) (by omega), nI_1]
theorem init_ok {N : Nat} (hN : 100000 ≤ N) : ∃ (l1 l2 : Nat) (fsl fst fdt fdl c1 y1 c2 y2 : Nat → Int32) (k1 t1 k2 t2 : Int32), mt fsl 0 288 fL ∧ wk fL fst ∧ mt fdl 0 288 fD2 ∧ wk fD2 fdt ∧ rc fL 288 l1 c1 y1 k1 t1 ∧ rc fD 32 l2 c2 y2 k2 t2 ∧ g_Bp_init_0 N = some (0, 0, 0, 0, 0, 0, 0, 0, 0, 0, 0, 0, 0, 0, 0, 0, fsl, fst, fdt, fdl, k1, t1, k2, t2, 0, 0, 0, 0, 0, 0, 0, 0, 0, 0, 0, c1, y1, c2, y2) := by
  obtain ⟨fsl, h1, e1⟩ := pi1_loop (N := N) (a1 := 0) (a2 := 0) (a3 := 0) (a4 := 0) (a5 := 0) (a6 := 0) (a7 := 0) (a8 := 0) (a9 := 0) (a10 := 0) (a11 := 0) (a12 := 0) (t1 := fun _ => 0) (t2 := fun _ => 0) (f2 := fun _ => 0) 288 0 (fun _ => 0) N (by omega) (by omega) (fun j h => absurd h (Nat.not_lt_zero j))
  obtain ⟨fdl, fst, fdt, h2, w1, w2, e2⟩ := pi2_loop (a1 := 0) (a2 := 0) (a3 := 0) (a4 := 0) (a5 := 0) (a6 := 0) (a7 := 0) (a8 := 0) (a9 := 0) (a10 := 0) (a11 := 0) (a12 := 0) (t1 := fun _ => 0) (t2 := fun _ => 0) hN h1 32 0 (fun _ => 0) N (by omega) (by omega) (fun j h => absurd h (Nat.not_lt_zero j)) (fun j _ => rfl)
  obtain ⟨l1, l2, k1, t1, k2, t2, c1, y1, c2, y2, r1, r2, e3⟩ := ui_loop (a1 := 0) (a2 := 0) (a3 := 0) (a4 := 0) (a5 := 0) (a6 := 0) (a7 := 0) (a8 := 0) (a9 := 0) (a10 := 0) (a11 := 0) (a12 := 0) (a13 := 0) (a14 := 0) (a15 := 0) (c1 := fun _ => 0) (y1 := fun _ => 0) (c2 := fun _ => 0) (y2 := fun _ => 0) hN 288 0 (fun _ => 0) N (by omega) (by omega) (fun j h => absurd h (Nat.not_lt_zero j))
  refine ⟨l1, l2, fsl, fst, fdt, fdl, c1, y1, c2, y2, k1, t1, k2, t2, h1, w1, h2, w2, r1, r2, ?_⟩
  have x1 : g_Packer_init_0 N = some (0, 0, 0, 0, 0, 0, 0, 0, 0, 0, 0, 0, fsl, fst, fdt, fdl) := by
    rw [g_Packer_init_0, g_Matcher_init_0, Option.bind_some, g_LengthMaker_init_0, Option.bind_some, g_Found_init_0, Option.bind_some, g_Tale_init_0, g_WriteCodes_init_0, Option.bind_some, Option.bind_some, Option.bind_some, Option.bind_some, Option.bind_some, Option.bind_some]
    exact e1.trans e2
  have x2 : g_Unpacker_init_0 N = some (k1, t1, k2, t2, 0, 0, 0, 0, 0, 0, 0, 0, 0, 0, 0, c1, y1, c2, y2) := by
    rw [g_Unpacker_init_0, g_ReadCodes_init_0, Option.bind_some, Option.bind_some, Option.bind_some, Option.bind_some, Option.bind_some]
    exact e3
  rw [g_Bp_init_0, g_Row_init_0, Option.bind_some, Option.bind_some, x1, Option.bind_some, x2, Option.bind_some]
