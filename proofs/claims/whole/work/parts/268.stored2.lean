theorem pad_loop {fo go gi : Nat → Int32} {P N : Nat} {x1 x2 : Int32} (hP : P % 8 = 0) (hP2 : P ≤ 72000) : ∀ (d q M : Nat), q + d = P → d < 8 → d < M → wr fo go q → ∃ M2, g_Mo_writeStored_L1 N 9000 8192 gi M x1 x2 go (nI ((q + 7) / 8)) (nI q) = g_Mo_writeStored_L1 N 9000 8192 gi (M2 + 1) x1 x2 go (nI ((P + 7) / 8)) (nI P) := by
  intro d
  induction d with
  | zero =>
    intro q M hq _ hM ho
    obtain ⟨k1, rfl⟩ := succ_of hM
    have e : q = P := by omega
    subst e
    exact ⟨k1, rfl⟩
  | succ d ih =>
    intro q M hq hd hM ho
    obtain ⟨k1, rfl⟩ := succ_of hM
    have hr : ¬ q % 8 = 0 := by omega
    have e8 : (q + 1 + 7) / 8 = (q + 7) / 8 := by omega
    have w' : wr fo go (q + 1) := by unfold wr; rw [e8]; exact ho
    obtain ⟨M2, r⟩ := ih (q + 1) k1 (by omega) (by omega) (by omega) w'
    refine ⟨M2, ?_⟩
    rw [e8] at r
    rw [g_Mo_writeStored_L1, nI_rem8 (by omega), if_neg (by rw [z_0, nI_eq (by omega) (by omega)]; exact hr), write0 ho (by omega) hr, Option.bind_some]
    exact r
theorem bytes_loop {f g : Nat → Int32} {m fr n N p0 : Nat} (hN : 100000 ≤ N) (hb : rb f g m) (hm : m ≤ 8192) (hn : fr + n ≤ m) (hp : p0 + 8 * n ≤ 72000) : ∀ (d i : Nat) (fo go : Nat → Int32) (M M' : Nat), i + d = n → d < M → d < M' → wr fo go (p0 + 8 * i) → ∃ fo' go', wr fo' go' (p0 + 8 * n) ∧ g_Packer_writeStored_L1 N 9000 (nI m) 9000 f M (nI (fr + n)) (nI (fr + i)) fo (nI ((p0 + 8 * i + 7) / 8)) (nI (p0 + 8 * i)) = some (fo', nI ((p0 + 8 * n + 7) / 8), nI (p0 + 8 * n)) ∧ g_Mo_writeStored_L2 N 9000 8192 g M' (nI (fr + n)) (nI (fr + i)) go (nI ((p0 + 8 * i + 7) / 8)) (nI (p0 + 8 * i)) = some (go', nI ((p0 + 8 * n + 7) / 8), nI (p0 + 8 * n)) := by
  intro d
  induction d with
  | zero =>
    intro i fo go M M' hi hM hM' ho
    obtain ⟨k1, rfl⟩ := succ_of hM
    obtain ⟨k2, rfl⟩ := succ_of hM'
    have e : i = n := by omega
    subst e
    refine ⟨fo, go, ho, ?_, ?_⟩
    · rw [g_Packer_writeStored_L1, if_pos (nI_le (by omega) (by omega))]
    · rw [g_Mo_writeStored_L2, if_pos (nI_le (by omega) (by omega))]
  | succ d ih =>
    intro i fo go M M' hi hM hM' ho
    obtain ⟨k1, rfl⟩ := succ_of hM
    obtain ⟨k2, rfl⟩ := succ_of hM'
    obtain ⟨fo1, go1, w', e1, e1'⟩ := sim_put (N := N) (k := 8) (x := g (fr + i)) (y := g (fr + i)) ho (by omega) (by omega) hN (fun i _ => rfl)
    rw [show p0 + 8 * i + 8 = p0 + 8 * (i + 1) by omega] at w' e1 e1'
    obtain ⟨fo', go', w2', r1, r2⟩ := ih (i + 1) fo1 go1 k1 k2 (by omega) (by omega) (by omega) w'
    refine ⟨fo', go', w2', ?_, ?_⟩
    · have x1 : g_Row_putNumber_0 N 9000 (g (fr + i)) 8 fo _ _ = _ := e1
      rw [g_Packer_writeStored_L1, if_neg (nI_ge (by omega) (by omega)), Row_byteAt_in hb (by omega) (by omega), Option.bind_some, x1, Option.bind_some, nI_1]
      exact r1
    · have x1 : g_Mo_writeNumber_0 N 9000 (g (fr + i)) 8 go _ _ = _ := e1'
      rw [g_Mo_writeStored_L2, if_neg (nI_ge (by omega) (by omega)), if_neg (nI_in (by omega) (by omega)), nI_clamp (n := fr + i) (by omega), x1, Option.bind_some, nI_1]
      exact r2
/-- a stored block but for its first bit -/
theorem sim_storedw {f g fo go : Nat → Int32} {m fr n N p p' : Nat} (hN : 100000 ≤ N) (hb : rb f g m) (hm : m ≤ 8192) (hn : fr + n ≤ m) (hn2 : n ≤ 4096) (ho : wr fo go p) (hp' : p' = (p + 2 + 7) / 8 * 8 + 32 + 8 * n) (hp : p' ≤ 72000) : ∃ fo' go', wr fo' go' p' ∧ g_Packer_writeStored_0 N 9000 (nI m) 9000 f (nI fr) (nI (fr + n)) fo (nI ((p + 7) / 8)) (nI p) = some (fo', nI ((p' + 7) / 8), nI p') ∧ g_Mo_writeStored_0 N 9000 8192 g (nI fr) (nI (fr + n)) go (nI ((p + 7) / 8)) (nI p) = some (go', nI ((p' + 7) / 8), nI p') := by
  obtain ⟨fo1, go1, a1, e1, e1'⟩ := sim_put (N := N) (k := 2) (x := 0) (y := 0) ho (by omega) (by omega) hN (fun i _ => rfl)
  have eP : ((p + 2 + 7) / 8 * 8 + 7) / 8 = (p + 2 + 7) / 8 := by omega
  have a1' := wr_pad a1
  obtain ⟨M2, e2⟩ := pad_loop (gi := g) (N := N) (x1 := nI fr) (x2 := nI (fr + n)) (P := (p + 2 + 7) / 8 * 8) (by omega) (by omega) ((p + 2 + 7) / 8 * 8 - (p + 2)) (p + 2) N (by omega) (by omega) (by omega) a1
  have hP8 : (p + 2 + 7) / 8 * 8 % 8 = 0 := by omega
  obtain ⟨P, hP⟩ : ∃ P, P = (p + 2 + 7) / 8 * 8 := ⟨_, rfl⟩
  rw [← hP] at a1' e2 hp' hP8
  obtain ⟨fo3, go3, a3, e3, e3'⟩ := sim_put (N := N) (k := 16) (x := nI n) (y := nI n) a1' (by omega) (by omega) hN (fun i _ => rfl)
  obtain ⟨fo4, go4, a4, e4, e4'⟩ := sim_put (N := N) (k := 16) (x := nI (65535 - n)) (y := nI (65535 - n)) a3 (by omega) (by omega) hN (fun i _ => rfl)
  obtain ⟨fo5, go5, a5, e5, e5'⟩ := bytes_loop (p0 := P + 16 + 16) hN hb hm hn (by omega) n 0 fo4 go4 N N (by omega) (by omega) (by omega) a4
  have q5 : P + 16 + 16 + 8 * n = p' := by omega
  rw [q5] at a5 e5 e5'
  have s1 : nI (fr + n) - nI fr = nI n := by rw [pk_sub (by omega)]; congr 1; omega
  refine ⟨fo5, go5, a5, ?_, ?_⟩
  · have x1 : g_Row_putNumber_0 N 9000 0 2 fo _ _ = _ := e1
    have x3 : g_Row_putNumber_0 N 9000 (nI n) 16 fo1 (nI ((P + 7) / 8)) (nI P) = _ := e3
    have x4 : g_Row_putNumber_0 N 9000 (nI (65535 - n)) 16 fo3 (nI ((P + 16 + 7) / 8)) (nI (P + 16)) = _ := e4
    have s2 : (65535 : Int32) - nI n = nI (65535 - n) := pk_sub (a := 65535) (by omega)
    have eP2 : (p + 2 + 7) / 8 = (P + 7) / 8 := by omega
    rw [g_Packer_writeStored_0, s1, s2, x1, Option.bind_some]
    dsimp only
    rw [skip_to, Option.bind_some, ← hP, eP2, x3, Option.bind_some]
    dsimp only
    rw [x4, Option.bind_some]
    exact e5
  · have x1 : g_Mo_writeNumber_0 N 9000 0 2 go _ _ = _ := e1'
    have x3 : g_Mo_writeNumber_0 N 9000 (nI n) 16 go1 (nI ((P + 7) / 8)) (nI P) = _ := e3'
    have x4 : g_Mo_writeNumber_0 N 9000 (nI (65535 - n)) 16 go3 (nI ((P + 16 + 7) / 8)) (nI (P + 16)) = _ := e4'
    have s2 : (65535 : Int32) - nI (fr + n) + nI fr = nI (65535 - n) := by
      have : (65535 : Int32) - nI (fr + n) = nI (65535 - (fr + n)) := pk_sub (a := 65535) (by omega)
      rw [this, nI_add]; congr 1; omega
    rw [g_Mo_writeStored_0, x1, Option.bind_some]
    dsimp only
    rw [e2, g_Mo_writeStored_L1, nI_rem8 (by omega), if_pos (by rw [hP8]; rfl), s1, s2, x3, Option.bind_some]
    dsimp only
    rw [x4, Option.bind_some]
    exact e5'
