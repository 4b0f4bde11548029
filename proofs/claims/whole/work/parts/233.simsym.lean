theorem sim_sym {f g fm counts symbols : Nat → Int32} {len : Nat → Nat} {nb n n0 a l N : Nat} {codes longest : Int32} (h : rb f g nb) (hnb : nb ≤ 8192) (hN : 100000 ≤ N) (hm : mt fm a n len) (ha : a + n ≤ n0) (hn0 : n0 ≤ 1000) (hn : n ≤ 288) (hv : okc len n) (R : rc len n l counts symbols codes longest) :
    ∀ (d k code p M M' : Nat), k + d = 16 → 1 ≤ k → d < M → d < M' → p ≤ 8 * nb → code < 2 ^ (k - 1) → fs len n (k - 1) ≤ code →
    ∃ p' : Nat, p' ≤ 8 * nb ∧ ((∃ s : Nat, s < n ∧ p < p' ∧ g_ReadCodes_next_L1 codes longest (nI nb) 9000 f 16 counts 288 symbols M (nI code) (nI (fs len n (k - 1))) (nI (bf len n (k - 1))) (nI k) (nI p) = some (nI s, nI p') ∧ g_Mo_symbol_L1 N (nI nb) n0 fm 8192 g M' (nI a) (nI n) (nI code) (nI (fs len n (k - 1))) (nI k) 0 (nI p) = some (nI s, 0, nI p')) ∨
      (∃ e : Nat, (e = 2 ∨ e = 8) ∧ g_ReadCodes_next_L1 codes longest (nI nb) 9000 f 16 counts 288 symbols M (nI code) (nI (fs len n (k - 1))) (nI (bf len n (k - 1))) (nI k) (nI p) = some (-nI e, nI p') ∧ g_Mo_symbol_L1 N (nI nb) n0 fm 8192 g M' (nI a) (nI n) (nI code) (nI (fs len n (k - 1))) (nI k) 0 (nI p) = some (-1, nI e, nI p'))) := by
  have hl : ∀ s, s < n → len s ≤ 15 := fun s hs => (hm s hs).2
  obtain ⟨Rc, Rk, Rl, Rt, Rs⟩ := id R
  have hl15 := Rt.1
  intro d
  induction d with
  | zero =>
    intro k code p M M' hk h1 hM hM' hp hc hf
    obtain ⟨m, rfl⟩ := succ_of hM
    obtain ⟨m', rfl⟩ := succ_of hM'
    refine ⟨p, hp, Or.inr ⟨8, Or.inr rfl, ?_, ?_⟩⟩
    · rw [g_ReadCodes_next_L1, Rl, if_pos (nI_lt (by omega) (by omega))]; rfl
    · rw [g_Mo_symbol_L1, if_pos (show (15 : Int32) < nI k from nI_lt (a := 15) (by omega) (by omega))]; rfl
  | succ d ih =>
    intro k code p M M' hk h1 hM hM' hp hc hf
    obtain ⟨m, rfl⟩ := succ_of hM
    obtain ⟨m', rfl⟩ := succ_of hM'
    have hk15 : k ≤ 15 := by omega
    have hcode : code < 32768 := Nat.lt_of_lt_of_le hc (Nat.pow_le_pow_right (n := 2) (by decide) (show k - 1 ≤ 15 by omega))
    have em : g_Mo_symbol_L1 N (nI nb) n0 fm 8192 g (m' + 1) (nI a) (nI n) (nI code) (nI (fs len n (k - 1))) (nI k) 0 (nI p) = (if cg len k n = 0 then Option.bind (g_Mo_blame_0 8 0) (fun r5 => g_Mo_symbol_J2 N (nI nb) n0 fm 8192 g (g_Mo_symbol_L1 N (nI nb) n0 fm 8192 g m') (nI a) (nI n) (nI code) (nI (2 * fs len n (k - 1))) (nI k) (nI (cn len k n)) r5 (nI p)) else g_Mo_symbol_J2 N (nI nb) n0 fm 8192 g (g_Mo_symbol_L1 N (nI nb) n0 fm 8192 g m') (nI a) (nI n) (nI code) (nI (2 * fs len n (k - 1))) (nI k) (nI (cn len k n)) 0 (nI p)) := by
      rw [g_Mo_symbol_L1, if_neg (show ¬ (15 : Int32) < nI k from nI_nlt (a := 15) (by omega) (by omega)), z_2, pk_mul]
      exact sym_count hm ha hn0 hk15 h1 n 0 N (by omega) (by omega)
    by_cases c0 : l < k
    · refine ⟨p, hp, Or.inr ⟨8, Or.inr rfl, ?_, ?_⟩⟩
      · rw [g_ReadCodes_next_L1, Rl, if_pos (nI_lt c0 (by omega))]; rfl
      · rw [em, if_pos (cg_zero (fun s hs => by have := Rt.2.1 s hs; omega))]
        show g_Mo_symbol_J2 N (nI nb) n0 fm 8192 g _ _ _ _ _ _ _ 8 (nI p) = _
        rw [g_Mo_symbol_J2, bit_off (show ¬ (8 : Int32) = 0 by decide), Option.bind_some]
        dsimp only
        rw [if_neg (show ¬ (8 : Int32) = 0 by decide)]
        rfl
    have hcg : ¬ cg len k n = 0 := by
      rcases Rt.2.2 with q | ⟨s, hs, q⟩
      · omega
      · have := cg_pos (len := len) (k := k) hs (by omega)
        omega
    rw [em, if_neg hcg]
    have eF : fs len n k = 2 * fs len n (k - 1) + cn len k n := by
      obtain ⟨j, rfl⟩ : ∃ j, k = j + 1 := ⟨k - 1, by omega⟩
      rfl
    have eB : bf len n k = bf len n (k - 1) + cn len k n := by
      obtain ⟨j, rfl⟩ : ∃ j, k = j + 1 := ⟨k - 1, by omega⟩
      rfl
    have eB15 : bf len n k ≤ bf len n 15 := by
      have := bf_mono (len := len) (n := n) (a := k) (15 - k)
      rw [show k + (15 - k) = 15 by omega] at this
      exact this
    have hB : bf len n 15 ≤ n := by
      have := bf_le (len := len) (n := n) 15
      have := cg_le len 1 n
      omega
    have hcn := cn_le len k n
    have hpow : 2 ^ k = 2 * 2 ^ (k - 1) := by
      obtain ⟨j, rfl⟩ : ∃ j, k = j + 1 := ⟨k - 1, by omega⟩
      rw [Nat.pow_succ, Nat.mul_comm]
      rfl
    have hck := Rc k h1 hk15
    by_cases cb : p < 8 * nb
    · have hbit := bitOf_lt g p
      have e1 := nextBit_in h (show nb ≤ 9000 by omega) cb
      have e2 := bit_in h hnb cb
      generalize bitOf g p = b at hbit e1 e2
      rw [g_ReadCodes_next_L1, Rl, if_neg (nI_nlt (by omega) (by omega)), e1, Option.bind_some, g_Mo_symbol_J2, e2, Option.bind_some]
      dsimp only
      rw [if_pos rfl, if_pos (nI_pos' (by omega)), z_2, pk_mul, pk_mul, nI_add, pk_sub (by omega), if_neg (nI_pos (by omega))]
      by_cases cm : 2 * code + b - 2 * fs len n (k - 1) < cn len k n
      · obtain ⟨s, hs, es⟩ := Rs k _ h1 hk15 cm
        obtain ⟨s', hs', es'⟩ := nth_ok (N := N) hm ha hn0 hk15 cm hN
        have : s = s' := nth_one hs hs'
        subst this
        refine ⟨p + 1, by omega, Or.inl ⟨s, hs.1, by omega, ?_, ?_⟩⟩
        · simp (disch := omega) only [z_0, nI_ltI, nI_leI, nI_clamp, if_neg, hck, nI_add, Rk, es]
        · rw [if_neg (nI_ge cm (by omega)), es', Option.bind_some]
      · have hlt : 2 * code + b < 2 ^ k := by omega
        have hfk : fs len n k ≤ 2 * code + b := by omega
        have hcode2 : 2 * code + b < 65536 := by omega
        have ec : ∀ K : Int32 → Int32 → Int32 → Int32 → Int32 → Option (Int32 × Int32), g_ReadCodes_next_J1 16 counts K (nI (2 * code + b)) (nI (2 * fs len n (k - 1))) (nI (bf len n (k - 1))) (nI k) (nI (p + 1)) = K (nI (2 * code + b)) (nI (fs len n k)) (nI (bf len n k)) (nI (k + 1)) (nI (p + 1)) := by
          intro K
          simp (disch := omega) only [g_ReadCodes_next_J1, z_0, nI_ltI, nI_clamp, if_neg, hck, nI_add, nI_1]
          rw [eF, eB]
        have e4 : (if nI k < 0 ∨ 16 ≤ (nI k).toNatClampNeg then none else (if counts (nI k).toNatClampNeg ≤ nI (2 * code + b - 2 * fs len n (k - 1)) then g_ReadCodes_next_J1 16 counts (g_ReadCodes_next_L1 codes (nI l) (nI nb) 9000 f 16 counts 288 symbols m) (nI (2 * code + b)) (nI (2 * fs len n (k - 1))) (nI (bf len n (k - 1))) (nI k) (nI (p + 1)) else (if codes ≤ nI (bf len n (k - 1)) + nI (2 * code + b - 2 * fs len n (k - 1)) then g_ReadCodes_next_J1 16 counts (g_ReadCodes_next_L1 codes (nI l) (nI nb) 9000 f 16 counts 288 symbols m) (nI (2 * code + b)) (nI (2 * fs len n (k - 1))) (nI (bf len n (k - 1))) (nI k) (nI (p + 1)) else (if nI (bf len n (k - 1)) + nI (2 * code + b - 2 * fs len n (k - 1)) < 0 ∨ 288 ≤ (nI (bf len n (k - 1)) + nI (2 * code + b - 2 * fs len n (k - 1))).toNatClampNeg then none else some (symbols (nI (bf len n (k - 1)) + nI (2 * code + b - 2 * fs len n (k - 1))).toNatClampNeg, nI (p + 1)))))) = g_ReadCodes_next_L1 codes (nI l) (nI nb) 9000 f 16 counts 288 symbols m (nI (2 * code + b)) (nI (fs len n k)) (nI (bf len n k)) (nI (k + 1)) (nI (p + 1)) := by
          rw [if_neg (by rw [z_0, nI_ltI (by omega) (by omega), nI_clamp (by omega)]; omega), nI_clamp (by omega), hck, if_pos (nI_le (by omega) (by omega)), ec]
        rw [e4, if_pos (nI_le (by omega) (by omega)), nI_add, ← eF, pk_sub hfk, begins_ok (N := N) hm ha hn0 hk15 (show 2 * code + b - fs len n k < 2 ^ k by omega) hN, Option.bind_some]
        have hbg := begins_iff hl hv Rt h1 (show k ≤ l by omega) hlt hfk
        by_cases cl : k < l
        · rw [if_pos (hbg.mpr cl), if_neg (show ¬ (1 : Int32) = 0 by decide), nI_1]
          obtain ⟨p', hp', q⟩ := ih (k + 1) (2 * code + b) (p + 1) m m' (by omega) (by omega) (by omega) (by omega) (by omega) (by rw [Nat.add_sub_cancel]; exact hlt) (by rw [Nat.add_sub_cancel]; exact hfk)
          rw [Nat.add_sub_cancel, Rl] at q
          refine ⟨p', hp', ?_⟩
          rcases q with ⟨s, hs, hpp, q1, q2⟩ | ⟨e, he, q1, q2⟩
          · exact Or.inl ⟨s, hs, by omega, q1, q2⟩
          · exact Or.inr ⟨e, he, q1, q2⟩
        · rw [if_neg (fun z => cl (hbg.mp z)), if_pos rfl]
          refine ⟨p + 1, by omega, Or.inr ⟨8, Or.inr rfl, ?_, rfl⟩⟩
          obtain ⟨m2, rfl⟩ := succ_of (show 0 < m by omega)
          rw [g_ReadCodes_next_L1, if_pos (nI_lt (by omega) (by omega))]
          rfl
    · have e0 : p = 8 * nb := by omega
      refine ⟨p, hp, Or.inr ⟨2, Or.inl rfl, ?_, ?_⟩⟩
      · rw [g_ReadCodes_next_L1, Rl, if_neg (nI_nlt (by omega) (by omega)), nextBit_out (by omega) e0, Option.bind_some]
        rfl
      · rw [g_Mo_symbol_J2, bit_out hnb e0, Option.bind_some]
        rfl
