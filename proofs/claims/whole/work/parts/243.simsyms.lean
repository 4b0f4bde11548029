theorem rs_off {g ln go told : Nat → Int32} {n N M : Nat} {a p m x1 : Int32} (ha : ¬ a = 0) (hM : 0 < M) : g_Mo_readSymbols_L1 N (nI n) 320 ln 8192 g 9000 8 M x1 a p go m told = some (a, p, go, m, told) := by
  obtain ⟨k, rfl⟩ := succ_of hM
  rw [g_Mo_readSymbols_L1, if_neg ha]
  by_cases c : x1 = 0
  · rw [if_pos c]
  · rw [if_neg c]
theorem rs_J1_off {g ln go told : Nat → Int32} {n N : Nat} {K : Int32 → Int32 → Int32 → (Nat → Int32) → Int32 → (Nat → Int32) → Option (Int32 × Int32 × (Nat → Int32) × Int32 × (Nat → Int32))} {a p m x2 : Int32} (ha : ¬ a = 0) : ∃ y, g_Mo_readSymbols_J1 N (nI n) 320 ln 8192 g 9000 8 K x2 a p go m told = K y a p go m told := by
  rw [g_Mo_readSymbols_J1, if_neg ha, g_Mo_readSymbols_J2, g_Mo_readSymbols_J3, g_Mo_readSymbols_J3, if_neg ha, if_neg ha]
  by_cases c : x2 = 256
  · exact ⟨_, if_pos c⟩
  · exact ⟨_, if_neg c⟩
set_option maxRecDepth 100000 in
theorem sim_syms {f g ln ca y1 cb y2 : Nat → Int32} {len1 len2 : Nat → Nat} {n N l1 l2 : Nat} {F k1 t1 k2 t2 : Int32} (hb : rb f g n) (hn : n ≤ 8192) (hN : 100000 ≤ N) (m1 : mt ln 0 288 len1) (m2 : mt ln 288 32 len2) (v1 : okc len1 288) (v2 : okc len2 32) (R1 : rc len1 288 l1 ca y1 k1 t1) (R2 : rc len2 32 l2 cb y2 k2 t2) (hF : F = (256 : Int32) <<< (((g 0) >>> ((4 : Int32) &&& 31)) &&& 31)) :
    ∀ (d i p m : Nat) (ma : Int32) (fo go told : Nat → Int32) (M M' : Nat), 8 * n ≤ p + d → d < M → d + 1 < M' → i ≤ p → p ≤ 8 * n → m ≤ 8192 → rb fo go m → told 7 = ma →
    ∃ (e p' m' : Nat) (ma' : Int32) (fo' go' told' : Nat → Int32), e < 13 ∧ (e = 0 → p ≤ p') ∧ p' ≤ 8 * n ∧ m' ≤ 8192 ∧ rb fo' go' m' ∧ told' 7 = ma' ∧ (∀ j, j ≠ 7 → told' j = told j) ∧
      g_Unpacker_readSymbols_L1 N k1 t1 (nI n) 9000 f 16 ca 288 y1 F k2 t2 16 cb 288 y2 9000 M (nI i) (nI p) ma fo (nI m) = some (nI e, nI p', ma', fo', nI m') ∧
      g_Mo_readSymbols_L1 N (nI n) 320 ln 8192 g 9000 8 M' 1 0 (nI p) go (nI m) told = some (nI e, nI p', go', nI m', told') := by
  intro d
  induction d with
  | zero =>
    intro i p m ma fo go told M M' h1 hM hM' hi hp hm ho ht
    obtain ⟨k, rfl⟩ := succ_of hM
    obtain ⟨k', rfl⟩ := succ_of hM'
    obtain ⟨p1, hp1, q⟩ := sim_next hb hn hN m1 (show 0 + 288 ≤ 320 by omega) (by omega) (by omega) v1 R1 hp
    rcases q with ⟨s, hs, hpp, q1, q2⟩ | ⟨e, he, q1, q2⟩
    · omega
    · have q2' : g_Mo_symbol_0 N (nI n) 320 ln 8192 g 0 288 0 (nI p) = some (-1, nI e, nI p1) := q2
      obtain ⟨z1, z2, z3⟩ := fault_val he
      refine ⟨e, p1, m, ma, fo, go, told, by omega, fun z => by omega, hp1, hm, ho, ht, fun _ _ => rfl, ?_, ?_⟩
      · rw [g_Unpacker_readSymbols_L1, if_neg (show ¬ (65536 : Int32) < nI i from nI_nlt (a := 65536) (by omega) (by omega)), q1, Option.bind_some]
        dsimp only
        rw [if_neg z1, z2]
      · rw [g_Mo_readSymbols_L1, if_neg (by decide), if_pos rfl, q2', Option.bind_some]
        dsimp only
        rw [if_neg z3]
        obtain ⟨y, ey⟩ := rs_J1_off (g := g) (ln := ln) (go := go) (told := told) (n := n) (N := N) (K := g_Mo_readSymbols_L1 N (nI n) 320 ln 8192 g 9000 8 k') (p := nI p1) (m := nI m) (x2 := -1) z3
        rw [ey]
        exact rs_off z3 (by omega)
  | succ d ih =>
    intro i p m ma fo go told M M' h1 hM hM' hi hp hm ho ht
    obtain ⟨k, rfl⟩ := succ_of hM
    obtain ⟨k', rfl⟩ := succ_of hM'
    obtain ⟨p1, hp1, q⟩ := sim_next hb hn hN m1 (show 0 + 288 ≤ 320 by omega) (by omega) (by omega) v1 R1 hp
    rw [g_Unpacker_readSymbols_L1, if_neg (show ¬ (65536 : Int32) < nI i from nI_nlt (a := 65536) (by omega) (by omega)), g_Mo_readSymbols_L1, if_neg (show ¬ (1 : Int32) = 0 by decide), if_pos rfl]
    rcases q with ⟨s, hs, hpp, q1, q2⟩ | ⟨e, he, q1, q2⟩
    · have q2' : g_Mo_symbol_0 N (nI n) 320 ln 8192 g 0 288 0 (nI p) = some (nI s, 0, nI p1) := q2
      rw [q1, q2', Option.bind_some, Option.bind_some]
      dsimp only
      rw [if_pos (nI_pos' (by omega)), if_pos rfl]
      by_cases c1 : s = 256
      · subst c1
        refine ⟨0, p1, m, ma, fo, go, told, by decide, fun _ => by omega, hp1, hm, ho, ht, fun _ _ => rfl, ?_, ?_⟩
        · rw [if_pos (show nI 256 = 256 from rfl)]; rfl
        · rw [if_pos (show nI 256 ≤ (285 : Int32) by decide), g_Mo_readSymbols_J1, if_pos rfl, if_pos (show (256 : Int32) ≤ nI 256 by decide), g_Mo_readSymbols_J2, if_pos (show nI 256 = 256 from rfl), g_Mo_readSymbols_J3, if_pos rfl, if_pos (show nI 256 ≤ (256 : Int32) by decide)]
          obtain ⟨k2, rfl⟩ := succ_of (show 0 < k' by omega)
          rw [g_Mo_readSymbols_L1, if_pos rfl]
          rfl
      · rw [if_neg (by rw [z_256, nI_eq (by omega) (by omega)]; exact c1)]
        by_cases c2 : s < 256
        · rw [if_neg (show ¬ (256 : Int32) ≤ nI s from nI_ge (b := 256) c2 (by omega)), if_pos (show nI s ≤ (285 : Int32) from nI_le (b := 285) (by omega) (by omega)), g_Mo_readSymbols_J1, if_pos rfl, if_neg (show ¬ (256 : Int32) ≤ nI s from nI_ge (b := 256) c2 (by omega)), g_Unpacker_putSingle_0]
          have eJ : ∀ (a q : Int32) (go' : Nat → Int32), g_Mo_readSymbols_J2 N (nI n) 320 ln 8192 g 9000 8 (g_Mo_readSymbols_L1 N (nI n) 320 ln 8192 g 9000 8 k') (nI s) a (nI p1) go' q told = g_Mo_readSymbols_L1 N (nI n) 320 ln 8192 g 9000 8 k' 1 a (nI p1) go' q told := by
            intro a q go'
            rw [g_Mo_readSymbols_J2, if_neg (by rw [z_256, nI_eq (by omega) (by omega)]; exact c1), g_Mo_readSymbols_J3]
            by_cases ca : a = 0
            · rw [if_pos ca, if_pos (show nI s ≤ (256 : Int32) from nI_le (b := 256) (by omega) (by omega))]
            · rw [if_neg ca]
          by_cases c3 : m < 8192
          · rw [Row_add_in c3, make_in c3, Option.bind_some]
            dsimp only
            rw [if_neg (show ¬ (1 : Int32) = 0 by decide), Option.bind_some, Option.bind_some]
            dsimp only
            rw [g_Unpacker_readSymbols_J1, if_pos rfl, eJ, nI_1]
            obtain ⟨e', p', m'', ma', fo'', go'', told', u1, u0, u2⟩ := ih (i + 1) p1 (m + 1) ma (upd fo m (nI s).toInt8.toInt32) (upd go m (nI s)) told k k' (by omega) (by omega) (by omega) (by omega) hp1 (by omega) (rb_add ho c2 rfl rfl) ht
            exact ⟨e', p', m'', ma', fo'', go'', told', u1, fun z => by have := u0 z; omega, u2⟩
          · have e3 : m = 8192 := by omega
            subst e3
            rw [Row_add_out, make_full, Option.bind_some]
            dsimp only
            rw [if_pos rfl, Option.bind_some, Option.bind_some]
            dsimp only
            rw [g_Unpacker_readSymbols_J1, if_neg (show ¬ (10 : Int32) = 0 by decide), eJ]
            exact ⟨10, p1, 8192, ma, fo, go, told, by decide, fun z => by omega, hp1, Nat.le_refl _, ho, ht, fun _ _ => rfl, rfl, rs_off (by decide) (by omega)⟩
        · rw [if_pos (show (256 : Int32) ≤ nI s from nI_le (a := 256) (by omega) (by omega))]
          by_cases c3 : s ≤ 285
          · obtain ⟨e, p2, m', fo', go', w1, w2, w3, w4, w5, w6, w7⟩ := sim_match (ma := ma) hb hn hN hp1 hm ho m2 v2 R2 (show 257 ≤ s by omega) c3 hF
            rw [w6, Option.bind_some, if_pos (show nI s ≤ (285 : Int32) from nI_le (b := 285) (by omega) (by omega)), g_Mo_readSymbols_J1, if_pos rfl, if_pos (show (256 : Int32) ≤ nI s from nI_le (a := 256) (by omega) (by omega)), g_Mo_readSymbols_J2, if_neg (by rw [z_256, nI_eq (by omega) (by omega)]; exact c1), g_Mo_readSymbols_J3, if_pos rfl, if_neg (show ¬ nI s ≤ (256 : Int32) from nI_ge (a := 256) (by omega) (by omega)), if_neg (show ¬ ((7 : Int32) < 0 ∨ 8 ≤ (7 : Int32).toNatClampNeg) by decide), show (7 : Int32).toNatClampNeg = 7 by decide, w7, Option.bind_some]
            dsimp only
            rw [g_Unpacker_readSymbols_J1]
            by_cases c4 : e = 0
            · subst c4
              rw [if_pos (show nI 0 = 0 from rfl), nI_1]
              have hw := w2 rfl
              obtain ⟨e', p', m'', ma', fo'', go'', told', u1, u0, u2, u3, u4, u5, u6, u7, u8⟩ := ih (i + 1) p2 m' (ma + 1) fo' go' (upd told 7 (told 7 + 1)) k k' (by omega) (by omega) (by omega) (by omega) w3 w4 w5 (by rw [pk_us, ht])
              exact ⟨e', p', m'', ma', fo'', go'', told', u1, fun z => by have := u0 z; omega, u2, u3, u4, u5, fun j hj => by rw [u6 j hj, pk_un hj], u7, u8⟩
            · have z3 : ¬ nI e = 0 := nI_ne0 (by omega) (by omega)
              rw [if_neg z3]
              exact ⟨e, p2, m', ma + 1, fo', go', upd told 7 (told 7 + 1), w1, fun z => by omega, w3, w4, w5, by rw [pk_us, ht], fun j hj => pk_un hj, rfl, rs_off z3 (by omega)⟩
          · have hmt : g_Unpacker_readMatch_0 N F (nI n) 9000 f k2 t2 16 cb 288 y2 9000 (nI s) ma (nI p1) fo (nI m) = some (8, ma, nI p1, fo, nI m) := by
              rw [g_Unpacker_readMatch_0, if_neg (show ¬ nI s ≤ (285 : Int32) from nI_ge (a := 285) (by omega) (by omega))]
            rw [hmt, Option.bind_some, if_neg (show ¬ nI s ≤ (285 : Int32) from nI_ge (a := 285) (by omega) (by omega))]
            dsimp only
            rw [g_Unpacker_readSymbols_J1, if_neg (show ¬ (8 : Int32) = 0 by decide)]
            refine ⟨8, p1, m, ma, fo, go, told, by decide, fun z => by omega, hp1, hm, ho, ht, fun _ _ => rfl, rfl, ?_⟩
            show g_Mo_readSymbols_J1 N (nI n) 320 ln 8192 g 9000 8 _ (nI s) 8 (nI p1) go (nI m) told = _
            obtain ⟨y, ey⟩ := rs_J1_off (g := g) (ln := ln) (go := go) (told := told) (n := n) (N := N) (K := g_Mo_readSymbols_L1 N (nI n) 320 ln 8192 g 9000 8 k') (p := nI p1) (m := nI m) (x2 := nI s) (show ¬ (8 : Int32) = 0 by decide)
            rw [ey]
            exact rs_off (by decide) (by omega)
    · have q2' : g_Mo_symbol_0 N (nI n) 320 ln 8192 g 0 288 0 (nI p) = some (-1, nI e, nI p1) := q2
      obtain ⟨z1, z2, z3⟩ := fault_val he
      rw [q1, q2', Option.bind_some, Option.bind_some]
      dsimp only
      rw [if_neg z1, z2, if_neg z3]
      obtain ⟨y, ey⟩ := rs_J1_off (g := g) (ln := ln) (go := go) (told := told) (n := n) (N := N) (K := g_Mo_readSymbols_L1 N (nI n) 320 ln 8192 g 9000 8 k') (p := nI p1) (m := nI m) (x2 := -1) z3
      refine ⟨e, p1, m, ma, fo, go, told, by omega, fun z => by omega, hp1, hm, ho, ht, fun _ _ => rfl, rfl, ?_⟩
      rw [ey]
      exact rs_off z3 (by omega)
