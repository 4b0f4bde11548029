theorem fit_loop {ct : Nat → Int32} {len : Nat → Nat} {n : Nat} {codes longest : Int32} (hn : n ≤ 288) (hct : ∀ k, 1 ≤ k → k ≤ 15 → ct k = nI (cn len k n)) : ∀ (d k M : Nat), k + d = 15 → d < M → g_ReadCodes_fit_L1 codes longest 16 ct M (nI (fs len n k * 2 ^ (15 - k))) (nI (k + 1)) = (if nI (fs len n 15) = 32768 then some 1 else (if codes = 1 then (if longest = 1 then some 1 else some 0) else some 0)) := by
  intro d
  induction d with
  | zero =>
    intro k M hk hM
    obtain ⟨m, rfl⟩ := succ_of hM
    have e : k = 15 := by omega
    subst e
    rw [g_ReadCodes_fit_L1, if_pos (show (15 : Int32) < nI (15 + 1) by decide), show fs len n 15 * 2 ^ (15 - 15) = fs len n 15 from Nat.mul_one _]
  | succ d ih =>
    intro k M hk hM
    obtain ⟨m, rfl⟩ := succ_of hM
    have hcn := cn_le len (k + 1) n
    have hp : 2 ^ (14 - k) ≤ 2 ^ 14 := Nat.pow_le_pow_right (by decide) (Nat.sub_le _ _)
    have hb : cn len (k + 1) n * 2 ^ (14 - k) ≤ 288 * 2 ^ 14 := Nat.mul_le_mul (by omega) hp
    have q := ih (k + 1) m (by omega) (by omega)
    rw [← q, g_ReadCodes_fit_L1, if_neg (show ¬ (15 : Int32) < nI (k + 1) from nI_nlt (a := 15) (by omega) (by omega)), if_neg (by rw [z_0, nI_ltI (by omega) (by omega), nI_clamp (by omega)]; omega), nI_clamp (by omega), hct (k + 1) (by omega) (by omega), z_15, pk_sub (by omega), show 15 - (k + 1) = 14 - k by omega, pk_shlN (nI (14 - k) &&& 31) (14 - k) (s_l _ (by omega)) (Nat.lt_of_le_of_lt hb (by decide)), nI_add, nI_1]
    have e2 : (2 : Nat) ^ (15 - k) = 2 * 2 ^ (14 - k) := by
      rw [show 15 - k = (14 - k) + 1 by omega, Nat.pow_succ]; omega
    have e3 : fs len n (k + 1) = 2 * fs len n k + cn len (k + 1) n := rfl
    rw [e3, e2, Nat.add_mul, ← Nat.mul_assoc, Nat.mul_comm (fs len n k) 2]
theorem lw_one {len : Nat → Nat} : ∀ {n : Nat}, (∀ s, s < n → len s ≤ 1) → lw len 0 n = cg len 1 n * 16384 := by
  intro n
  induction n with
  | zero =>
    intro _
    show 0 = 0 * 16384
    rw [Nat.zero_mul]
  | succ n ih =>
    intro h
    show lw len 0 n + (if 0 < len n then 2 ^ (15 - len n) else 0) = (cg len 1 n + (if 1 ≤ len n then 1 else 0)) * 16384
    rw [ih (fun s hs => h s (by omega)), Nat.add_mul]
    have := h n (by omega)
    rcases (show len n = 0 ∨ len n = 1 by omega) with q | q
    · rw [q]; rfl
    · rw [q]; rfl
theorem bf15 {len : Nat → Nat} {n : Nat} (hl : ∀ s, s < n → len s ≤ 15) : bf len n 15 = cg len 1 n := by
  have h1 := bf_le (len := len) (n := n) 15
  have h2 : cg len 16 n = 0 := cg_zero (fun s hs => by have := hl s hs; omega)
  rw [show 15 + 1 = 16 from rfl] at h1
  omega
theorem fs15 {len : Nat → Nat} {n : Nat} (hl : ∀ s, s < n → len s ≤ 15) : fs len n 15 = lw len 0 n := by
  have h1 := kraft len n hl 15 (Nat.le_refl _)
  have h2 : lw len 15 n = 0 := lw_zero hl
  rw [h2, show fs len n 15 * 2 ^ (15 - 15) = fs len n 15 from Nat.mul_one _] at h1
  omega
theorem fit_ok {ct sy : Nat → Int32} {len : Nat → Nat} {n l N : Nat} {codes longest : Int32} (hl : ∀ s, s < n → len s ≤ 15) (hn : n ≤ 288) (hN : 100000 ≤ N) (R : rc len n l ct sy codes longest) : g_ReadCodes_fit_0 N codes longest 16 ct = some (if lw len 0 n = 32768 ∨ (cg len 1 n = 1 ∧ lw len 0 n = 16384) then 1 else 0) := by
  obtain ⟨Rc, Rk, Rl, Rt, Rs⟩ := R
  have hb := lw_bound (len := len) (k := 0) n
  have hg := cg_le len 1 n
  have h := fit_loop (codes := codes) (longest := longest) hn Rc 15 0 N (by omega) (by omega)
  rw [show fs len n 0 * 2 ^ (15 - 0) = 0 from Nat.zero_mul _] at h
  rw [g_ReadCodes_fit_0]
  refine Eq.trans h ?_
  rw [fs15 hl, Rk, Rl, bf15 hl]
  have hl15 := Rt.1
  simp (disch := omega) only [z_32768, z_1, nI_eq]
  by_cases c1 : lw len 0 n = 32768
  · rw [if_pos c1, if_pos (Or.inl c1)]
  · rw [if_neg c1]
    by_cases c2 : cg len 1 n = 1
    · rw [if_pos c2]
      by_cases c3 : l = 1
      · rw [if_pos c3]
        have hw := lw_one (fun s hs => by have := Rt.2.1 s hs; omega : ∀ s, s < n → len s ≤ 1)
        rw [c2] at hw
        rw [if_pos (Or.inr ⟨c2, by omega⟩)]
      · rw [if_neg c3]
        rw [if_neg (by
          intro q
          rcases q with q | ⟨-, q⟩
          · exact c1 q
          · have h1 := single hl c2 q
            rcases Rt.2.2 with z | ⟨s, z1, z2⟩
            · have : lw len 0 n = 0 := lw_zero (fun s hs => by have := Rt.2.1 s hs; omega)
              omega
            · have z3 := h1 s z1
              have : l = 0 := by omega
              have : lw len 0 n = 0 := lw_zero (fun s hs => by have := Rt.2.1 s hs; omega)
              omega)]
    · rw [if_neg c2, if_neg (by
        intro q
        rcases q with q | ⟨q, -⟩
        · exact c1 q
        · exact c2 q)]
theorem none_ok {len : Nat → Nat} {n : Nat} (hl : ∀ s, s < n → len s ≤ 15) (hn : n ≤ 288) : g_ReadCodes_none_0 (nI (bf len n 15)) = some (if cg len 1 n = 0 then 1 else 0) := by
  have hg := cg_le len 1 n
  rw [g_ReadCodes_none_0, bf15 hl]
  simp (disch := omega) only [z_0, nI_eq]
  by_cases c : cg len 1 n = 0
  · rw [if_pos c, if_pos c]
  · rw [if_neg c, if_neg c]
theorem lw_pad {len : Nat → Nat} {k a : Nat} : ∀ d, (∀ s, a ≤ s → s < a + d → len s = 0) → lw len k (a + d) = lw len k a := by
  intro d
  induction d with
  | zero => intro _; rfl
  | succ d ih =>
    intro h
    show lw len k (a + d) + (if k < len (a + d) then 2 ^ (15 - len (a + d)) else 0) = _
    rw [ih (fun s h1 h2 => h s h1 (by omega)), if_neg (by rw [h (a + d) (by omega) (by omega)]; omega)]
    rfl
theorem cg_pad {len : Nat → Nat} {k a : Nat} (hk : 1 ≤ k) : ∀ d, (∀ s, a ≤ s → s < a + d → len s = 0) → cg len k (a + d) = cg len k a := by
  intro d
  induction d with
  | zero => intro _; rfl
  | succ d ih =>
    intro h
    show cg len k (a + d) + (if k ≤ len (a + d) then 1 else 0) = _
    rw [ih (fun s h1 h2 => h s h1 (by omega)), if_neg (by rw [h (a + d) (by omega) (by omega)]; omega)]
    rfl
theorem rc_pad {ct sy : Nat → Int32} {len : Nat → Nat} {n n2 l : Nat} {codes longest : Int32} (hn : n ≤ n2) (hz : ∀ s, n ≤ s → s < n2 → len s = 0) (R : rc len n l ct sy codes longest) : rc len n2 l ct sy codes longest := by
  obtain ⟨Rc, Rk, Rl, Rt, Rs⟩ := R
  obtain ⟨d, rfl⟩ : ∃ d, n2 = n + d := ⟨n2 - n, by omega⟩
  have ec : ∀ k, 1 ≤ k → cn len k (n + d) = cn len k n := fun k hk => cn_pad hk d hz
  have eb : ∀ k, bf len (n + d) k = bf len n k := by
    intro k
    induction k with
    | zero => rfl
    | succ k ih =>
      show bf len (n + d) k + cn len (k + 1) (n + d) = bf len n k + cn len (k + 1) n
      rw [ih, ec (k + 1) (by omega)]
  refine ⟨fun k h1 h2 => by rw [ec k h1]; exact Rc k h1 h2, by rw [eb]; exact Rk, Rl, ⟨Rt.1, fun s hs => ?_, ?_⟩, fun k i h1 h2 h3 => ?_⟩
  · by_cases c : s < n
    · exact Rt.2.1 s c
    · rw [hz s (by omega) hs]; omega
  · rcases Rt.2.2 with q | ⟨s, q1, q2⟩
    · exact Or.inl q
    · exact Or.inr ⟨s, by omega, q2⟩
  · rw [ec k h1] at h3
    obtain ⟨s, z1, z2⟩ := Rs k i h1 h2 h3
    exact ⟨s, ⟨by have := z1.1; omega, z1.2⟩, by rw [eb]; exact z2⟩
theorem sim_next {f g fm counts symbols : Nat → Int32} {len : Nat → Nat} {nb n n0 a l N p : Nat} {codes longest : Int32} (h : rb f g nb) (hnb : nb ≤ 8192) (hN : 100000 ≤ N) (hm : mt fm a n len) (ha : a + n ≤ n0) (hn0 : n0 ≤ 1000) (hn : n ≤ 288) (hv : okc len n) (R : rc len n l counts symbols codes longest) (hp : p ≤ 8 * nb) :
    ∃ p' : Nat, p' ≤ 8 * nb ∧ ((∃ s : Nat, s < n ∧ p < p' ∧ g_ReadCodes_next_0 N codes longest (nI nb) 9000 f 16 counts 288 symbols (nI p) = some (nI s, nI p') ∧ g_Mo_symbol_0 N (nI nb) n0 fm 8192 g (nI a) (nI n) 0 (nI p) = some (nI s, 0, nI p')) ∨
      (∃ e : Nat, (e = 2 ∨ e = 8) ∧ g_ReadCodes_next_0 N codes longest (nI nb) 9000 f 16 counts 288 symbols (nI p) = some (-nI e, nI p') ∧ g_Mo_symbol_0 N (nI nb) n0 fm 8192 g (nI a) (nI n) 0 (nI p) = some (-1, nI e, nI p'))) :=
  sim_sym h hnb hN hm ha hn0 hn hv R 15 1 0 p N N (by omega) (by omega) (by omega) (by omega) hp (by decide) (Nat.zero_le _)
