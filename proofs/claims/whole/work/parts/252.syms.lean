/-- how many bits a number has -/
def nb (x : Nat) : Nat := if x < 1 then 0 else if x < 2 then 1 else if x < 4 then 2 else if x < 8 then 3 else if x < 16 then 4 else if x < 32 then 5 else if x < 64 then 6 else if x < 128 then 7 else if x < 256 then 8 else if x < 512 then 9 else if x < 1024 then 10 else if x < 2048 then 11 else if x < 4096 then 12 else 13
theorem nb_le (x : Nat) : nb x ≤ 13 := by
  unfold nb
  repeat' split
  all_goals omega
theorem nb_ok {x : Nat} (h : x < 8192) : x < 2 ^ nb x ∧ ∀ k, k < nb x → 2 ^ k ≤ x := by
  have key : ∀ b, x < 2 ^ b → (b = 0 ∨ 2 ^ (b - 1) ≤ x) → x < 2 ^ b ∧ ∀ k, k < b → 2 ^ k ≤ x := by
    intro b h1 h2
    refine ⟨h1, fun k hk => ?_⟩
    rcases h2 with h2 | h2
    · omega
    · exact Nat.le_trans (Nat.pow_le_pow_right (by decide) (by omega)) h2
  unfold nb
  by_cases c0 : x < 1
  · rw [if_pos c0]; exact key 0 (by omega) (Or.inl rfl)
  rw [if_neg c0]
  by_cases c1 : x < 2
  · rw [if_pos c1]; exact key 1 (by omega) (Or.inr (by omega))
  rw [if_neg c1]
  by_cases c2 : x < 4
  · rw [if_pos c2]; exact key 2 (by omega) (Or.inr (by omega))
  rw [if_neg c2]
  by_cases c3 : x < 8
  · rw [if_pos c3]; exact key 3 (by omega) (Or.inr (by omega))
  rw [if_neg c3]
  by_cases c4 : x < 16
  · rw [if_pos c4]; exact key 4 (by omega) (Or.inr (by omega))
  rw [if_neg c4]
  by_cases c5 : x < 32
  · rw [if_pos c5]; exact key 5 (by omega) (Or.inr (by omega))
  rw [if_neg c5]
  by_cases c6 : x < 64
  · rw [if_pos c6]; exact key 6 (by omega) (Or.inr (by omega))
  rw [if_neg c6]
  by_cases c7 : x < 128
  · rw [if_pos c7]; exact key 7 (by omega) (Or.inr (by omega))
  rw [if_neg c7]
  by_cases c8 : x < 256
  · rw [if_pos c8]; exact key 8 (by omega) (Or.inr (by omega))
  rw [if_neg c8]
  by_cases c9 : x < 512
  · rw [if_pos c9]; exact key 9 (by omega) (Or.inr (by omega))
  rw [if_neg c9]
  by_cases c10 : x < 1024
  · rw [if_pos c10]; exact key 10 (by omega) (Or.inr (by omega))
  rw [if_neg c10]
  by_cases c11 : x < 2048
  · rw [if_pos c11]; exact key 11 (by omega) (Or.inr (by omega))
  rw [if_neg c11]
  by_cases c12 : x < 4096
  · rw [if_pos c12]; exact key 12 (by omega) (Or.inr (by omega))
  rw [if_neg c12]
  exact key 13 (by omega) (Or.inr (by omega))
theorem bitsIn_loop {x : Nat} (h : x < 8192) : ∀ (d k M : Nat), k + d = nb x → d < M → g_Bp_bitsIn_L1 M (nI x) (nI k) = some (nI (nb x)) := by
  have hb := nb_ok h
  have hle := nb_le x
  intro d
  induction d with
  | zero =>
    intro k M hk hM
    obtain ⟨m, rfl⟩ := succ_of hM
    have e : k = nb x := by omega
    subst e
    rw [g_Bp_bitsIn_L1, if_neg (show ¬ (31 : Int32) ≤ nI (nb x) from nI_ge (b := 31) (by omega) (by omega)), pk_shrN (by omega) _ (nb x) (s_l _ (by omega)), Nat.div_eq_of_lt hb.1, if_pos (show nI 0 = 0 from rfl)]
  | succ d ih =>
    intro k M hk hM
    obtain ⟨m, rfl⟩ := succ_of hM
    have h1 := hb.2 k (by omega)
    have h2 : 1 ≤ x / 2 ^ k := (Nat.one_le_div_iff (Nat.two_pow_pos k)).mpr h1
    have h3 := Nat.div_le_self x (2 ^ k)
    rw [g_Bp_bitsIn_L1, if_neg (show ¬ (31 : Int32) ≤ nI k from nI_ge (b := 31) (by omega) (by omega)), pk_shrN (by omega) _ k (s_l _ (by omega)), if_neg (nI_ne0 h2 (by omega)), nI_1]
    exact ih (k + 1) m (by omega) (by omega)
def dS (far : Nat) : Nat := 2 * (nb (far - 1) - 2) + (far - 1) / 2 ^ (nb (far - 1) - 2)
def lS (n : Nat) : Nat := if 258 ≤ n then 285 else 257 + 4 * (nb (n - 3) - 3) + (n - 3) / 2 ^ (nb (n - 3) - 3)
theorem max0 {b k : Nat} (hb : b ≤ 13) (hk : k ≤ 3) : (if (nI b - nI k) < 0 then (0 : Int32) else (nI b - nI k)) = nI (b - k) := by
  by_cases c : b < k
  · rw [if_pos (pk_sneg (by omega) c), show b - k = 0 by omega]; rfl
  · rw [pk_sub (by omega), if_neg (nI_pos (by omega))]
theorem sD_cls {far N : Nat} (h1 : 1 ≤ far) (h2 : far ≤ 8191) (hN : 100000 ≤ N) : g_Bp_symbolForDistance_0 N (nI far) = some (nI (dS far)) := by
  have hb := bitsIn_loop (x := far - 1) (by omega) (nb (far - 1)) 0 N (by omega) (by have := nb_le (far - 1); omega)
  have hb' : g_Bp_bitsIn_L1 N (nI (far - 1)) 0 = some (nI (nb (far - 1))) := hb
  have hle := nb_le (far - 1)
  rw [g_Bp_symbolForDistance_0, z_1, pk_sub h1, g_Bp_bitsIn_0, hb', Option.bind_some, z_2, max0 hle (by decide), pk_mul, pk_shrN (by omega) _ (nb (far - 1) - 2) (s_l _ (by omega)), nI_add]
  rfl
theorem sL_cls {n N : Nat} (h1 : 3 ≤ n) (h2 : n ≤ 258) (hN : 100000 ≤ N) : g_Bp_symbolForLength_0 N (nI n) = some (nI (lS n)) := by
  rw [g_Bp_symbolForLength_0]
  unfold lS
  by_cases c : 258 ≤ n
  · rw [if_neg (show ¬ nI n < (258 : Int32) from nI_nlt (b := 258) c (by omega)), if_pos c]; rfl
  · have hb := bitsIn_loop (x := n - 3) (by omega) (nb (n - 3)) 0 N (by omega) (by have := nb_le (n - 3); omega)
    have hb' : g_Bp_bitsIn_L1 N (nI (n - 3)) 0 = some (nI (nb (n - 3))) := hb
    have hle := nb_le (n - 3)
    rw [if_pos (show nI n < (258 : Int32) from nI_lt (b := 258) (by omega) (by omega)), if_neg c, z_3, pk_sub h1, g_Bp_bitsIn_0, hb', Option.bind_some, max0 hle (by decide), z_4, pk_mul, pk_shrN (by omega) _ (nb (n - 3) - 3) (s_l _ (by omega)), z_257, nI_add, nI_add]
theorem bD_mono : ∀ i, i < 30 → ∀ j, j ≤ i → bD j ≤ bD i := by decide +kernel
theorem bS_mono : ∀ i, i < 28 → ∀ j, j ≤ i → bS (257 + j) ≤ bS (257 + i) := by decide +kernel
theorem dS_in {far : Nat} (h1 : 1 ≤ far) (h2 : far ≤ 8191) : dS far < 26 ∧ bD (dS far) ≤ far ∧ far < bD (dS far + 1) := by
  obtain ⟨x, rfl⟩ : ∃ x, far = x + 1 := ⟨far - 1, by omega⟩
  have hb := nb_ok (x := x) (by omega)
  have hle := nb_le x
  have e : dS (x + 1) = 2 * (nb x - 2) + x / 2 ^ (nb x - 2) := rfl
  by_cases c : nb x < 3
  · have h3 : x < 4 := by
      have : 2 ^ nb x ≤ 2 ^ 2 := Nat.pow_le_pow_right (by decide) (by omega)
      omega
    rw [e, show nb x - 2 = 0 by omega, Nat.pow_zero, Nat.div_one, show 2 * 0 + x = x by omega]
    unfold bD
    rw [if_pos h3]
    refine ⟨by omega, by omega, ?_⟩
    by_cases c2 : x + 1 < 4
    · rw [if_pos c2]; omega
    · rw [if_neg c2, show x = 3 by omega]; decide
  · obtain ⟨k, hk⟩ : ∃ k, nb x = k + 3 := ⟨nb x - 3, by omega⟩
    rw [hk] at hb e
    have h4 := hb.2 (k + 2) (by omega)
    have h5 := hb.1
    have p1 : 2 ^ (k + 2) = 2 * 2 ^ (k + 1) := by rw [Nat.pow_succ, Nat.mul_comm]
    have p2 : 2 ^ (k + 3) = 4 * 2 ^ (k + 1) := by rw [Nat.pow_succ, p1]; omega
    have hp := Nat.two_pow_pos (k + 1)
    rw [show k + 3 - 2 = k + 1 by omega] at e
    rw [p1] at h4
    rw [p2] at h5
    have hq : x / 2 ^ (k + 1) = 2 ∨ x / 2 ^ (k + 1) = 3 := by
      have a1 : 2 ≤ x / 2 ^ (k + 1) := (Nat.le_div_iff_mul_le hp).mpr h4
      have a2 : x / 2 ^ (k + 1) < 4 := (Nat.div_lt_iff_lt_mul hp).mpr h5
      omega
    have hm := Nat.div_add_mod x (2 ^ (k + 1))
    have hr := Nat.mod_lt x hp
    rw [e]
    rcases hq with hq | hq <;> rw [hq] at hm ⊢
    · refine ⟨by omega, ?_, ?_⟩
      · unfold bD
        rw [if_neg (by omega), show (2 * (k + 1) + 2) % 2 = 0 by omega, show (2 * (k + 1) + 2) / 2 - 1 = k + 1 by omega]
        omega
      · unfold bD
        rw [if_neg (by omega), show (2 * (k + 1) + 2 + 1) % 2 = 1 by omega, show (2 * (k + 1) + 2 + 1) / 2 - 1 = k + 1 by omega]
        omega
    · refine ⟨by omega, ?_, ?_⟩
      · unfold bD
        rw [if_neg (by omega), show (2 * (k + 1) + 3) % 2 = 1 by omega, show (2 * (k + 1) + 3) / 2 - 1 = k + 1 by omega]
        omega
      · unfold bD
        rw [if_neg (by omega), show (2 * (k + 1) + 3 + 1) % 2 = 0 by omega, show (2 * (k + 1) + 3 + 1) / 2 - 1 = k + 2 by omega, p1]
        omega
theorem dsL {far d0 : Nat} (hf : far < 100000) (hd : d0 < 29) (h1 : bD d0 ≤ far) (h2 : far < bD (d0 + 1)) : ∀ (e j M : Nat), j + e = d0 → e < M → g_Mo_distanceSymbol_L1 M (nI far) (nI j) = some (nI d0) := by
  intro e
  induction e with
  | zero =>
    intro j M hj hM
    obtain ⟨m, rfl⟩ := succ_of hM
    have ej : j = d0 := by omega
    subst ej
    have hb := eD_ok (j + 1) (by omega)
    rw [g_Mo_distanceSymbol_L1, if_neg (show ¬ (29 : Int32) ≤ nI j from nI_ge (b := 29) (by omega) (by omega)), nI_1, hb.2.2.2.1, Option.bind_some, if_pos (nI_lt h2 (by omega))]
  | succ e ih =>
    intro j M hj hM
    obtain ⟨m, rfl⟩ := succ_of hM
    have hb := eD_ok (j + 1) (by omega)
    have hm := bD_mono d0 (by omega) (j + 1) (by omega)
    rw [g_Mo_distanceSymbol_L1, if_neg (show ¬ (29 : Int32) ≤ nI j from nI_ge (b := 29) (by omega) (by omega)), nI_1, hb.2.2.2.1, Option.bind_some, if_neg (nI_nlt (by omega) (by omega))]
    exact ih (j + 1) m (by omega) (by omega)
theorem sD_ref {far N : Nat} (h1 : 1 ≤ far) (h2 : far ≤ 8191) (hN : 100000 ≤ N) : g_Mo_distanceSymbol_0 N (nI far) = some (nI (dS far)) := by
  obtain ⟨a1, a2, a3⟩ := dS_in h1 h2
  rw [g_Mo_distanceSymbol_0]
  exact dsL (by omega) (by omega) a2 a3 (dS far) 0 N (by omega) (by omega)
def lSi (n : Nat) : Bool := decide (257 ≤ lS n ∧ lS n ≤ 284 ∧ bS (lS n) ≤ n ∧ (lS n = 284 ∨ n < bS (lS n + 1)))
theorem lS_all : ∀ n, n < 258 → 3 ≤ n → lSi n = true := by decide +kernel
theorem lsLo {n s0 : Nat} (hn : n < 100000) (hs : s0 ≤ 27) (h1 : bS (257 + s0) ≤ n) (h2 : s0 = 27 ∨ n < bS (257 + s0 + 1)) : ∀ (e j M : Nat), j + e = s0 → e < M → g_Mo_lengthSymbol_L1 M (nI n) (nI (257 + j)) = g_Mo_lengthSymbol_J1 (nI n) (nI (257 + s0)) := by
  intro e
  induction e with
  | zero =>
    intro j M hj hM
    obtain ⟨m, rfl⟩ := succ_of hM
    have ej : j = s0 := by omega
    subst ej
    rw [g_Mo_lengthSymbol_L1]
    by_cases c : j = 27
    · rw [if_pos (show (284 : Int32) ≤ nI (257 + j) from nI_le (a := 284) (by omega) (by omega))]
    · have hb := eS_ok (j + 1) (by omega)
      have h3 : n < bS (257 + (j + 1)) := by
        rcases h2 with h2 | h2
        · exact absurd h2 c
        · exact h2
      rw [if_neg (show ¬ (284 : Int32) ≤ nI (257 + j) from nI_ge (b := 284) (by omega) (by omega)), nI_1, Nat.add_assoc, hb.2.2.2.1, Option.bind_some, if_pos (nI_lt h3 (by omega))]
  | succ e ih =>
    intro j M hj hM
    obtain ⟨m, rfl⟩ := succ_of hM
    have hb := eS_ok (j + 1) (by omega)
    have hm := bS_mono s0 (by omega) (j + 1) (by omega)
    rw [g_Mo_lengthSymbol_L1, if_neg (show ¬ (284 : Int32) ≤ nI (257 + j) from nI_ge (b := 284) (by omega) (by omega)), nI_1, Nat.add_assoc, hb.2.2.2.1, Option.bind_some, if_neg (nI_nlt (by omega) (by omega))]
    exact ih (j + 1) m (by omega) (by omega)
theorem lS_in {n : Nat} (h1 : 3 ≤ n) (h2 : n ≤ 258) : 257 ≤ lS n ∧ lS n ≤ 285 := by
  by_cases c : n = 258
  · subst c; decide
  · have := lS_all n (by omega) h1
    unfold lSi at this
    have := of_decide_eq_true this
    omega
theorem sL_ref {n N : Nat} (h1 : 3 ≤ n) (h2 : n ≤ 258) (hN : 100000 ≤ N) : g_Mo_lengthSymbol_0 N (nI n) = some (nI (lS n)) := by
  rw [g_Mo_lengthSymbol_0]
  by_cases c : n = 258
  · subst c
    have := lsLo (n := 258) (s0 := 27) (by omega) (by omega) (by decide) (Or.inl rfl) 27 0 N (by omega) (by omega)
    have this' : g_Mo_lengthSymbol_L1 N (nI 258) 257 = g_Mo_lengthSymbol_J1 (nI 258) (nI (257 + 27)) := this
    rw [this', g_Mo_lengthSymbol_J1, if_pos (show nI 258 = 258 from rfl)]
    rfl
  · have hi := lS_all n (by omega) h1
    unfold lSi at hi
    obtain ⟨a1, a2, a3, a4⟩ := of_decide_eq_true hi
    obtain ⟨s0, hs0⟩ : ∃ s0, lS n = 257 + s0 := ⟨lS n - 257, by omega⟩
    rw [hs0] at a2 a3 a4
    have := lsLo (n := n) (s0 := s0) (by omega) (by omega) a3 (by rcases a4 with z | z; exact Or.inl (by omega); exact Or.inr z) s0 0 N (by omega) (by omega)
    have this' : g_Mo_lengthSymbol_L1 N (nI n) 257 = g_Mo_lengthSymbol_J1 (nI n) (nI (257 + s0)) := this
    rw [this', g_Mo_lengthSymbol_J1, if_neg (by rw [z_258, nI_eq (by omega) (by omega)]; exact c), hs0]
