/-- counts times weights -/
def sw (c w : Nat → Nat) : Nat → Nat
  | 0 => 0
  | n + 1 => sw c w n + c n * w n
theorem sw_ext {c c' w : Nat → Nat} : ∀ n, (∀ s, s < n → c s = c' s) → sw c w n = sw c' w n := by
  intro n
  induction n with
  | zero => intro _; rfl
  | succ n ih =>
    intro h
    show sw c w n + c n * w n = sw c' w n + c' n * w n
    rw [ih (fun s hs => h s (by omega)), h n (by omega)]
theorem sw_inc {c w : Nat → Nat} {s0 : Nat} : ∀ n, sw (fun s => c s + (if s0 = s then 1 else 0)) w n = sw c w n + (if s0 < n then w s0 else 0) := by
  intro n
  induction n with
  | zero => rw [if_neg (by omega)]; rfl
  | succ n ih =>
    show sw (fun s => c s + (if s0 = s then 1 else 0)) w n + (c n + (if s0 = n then 1 else 0)) * w n = sw c w n + c n * w n + _
    rw [ih, Nat.add_mul]
    by_cases z : s0 = n
    · subst z
      rw [if_neg (Nat.lt_irrefl _), if_pos rfl, if_pos (by omega), Nat.one_mul]
      omega
    · rw [if_neg z, Nat.zero_mul]
      by_cases y : s0 < n
      · rw [if_pos y, if_pos (by omega)]; omega
      · rw [if_neg y, if_neg (by omega)]; omega
theorem sw_zero {w : Nat → Nat} {c : Nat → Nat} : ∀ n, (∀ s, s < n → c s = 0) → sw c w n = 0 := by
  intro n
  induction n with
  | zero => intro _; rfl
  | succ n ih =>
    intro h
    show sw c w n + c n * w n = 0
    rw [ih (fun s hs => h s (by omega)), h n (by omega), Nat.zero_mul]
theorem exS_ok : ∀ s, s < 286 → g_Bp_extraOfSymbol_0 (nI s) = some (nI (eS s)) := by decide +kernel
theorem exD_ok : ∀ d, d < 30 → g_Bp_extraOfDistance_0 (nI d) = some (nI (eD d)) := fun d hd => (eD_ok d hd).1
def wS (len : Nat → Nat) (s : Nat) : Nat := len s + eS s
def wD (len : Nat → Nat) (d : Nat) : Nat := len d + eD d
theorem fb2 {dc fd : Nat → Int32} {len c : Nat → Nat} (hc : ∀ d, d < 30 → dc d = nI (c d)) (hf : mt fd 0 288 len) : ∀ (e d x M : Nat), d + e = 30 → e < M → g_Found_bits_L2 30 dc 288 fd M (nI (x + sw c (wD len) d)) (nI d) = some (nI (x + sw c (wD len) 30)) := by
  intro e
  induction e with
  | zero =>
    intro d x M hd hM
    obtain ⟨q, rfl⟩ := succ_of hM
    rw [g_Found_bits_L2, if_pos (show (30 : Int32) ≤ nI d from nI_le (a := 30) (by omega) (by omega)), show d = 30 by omega]
  | succ e ih =>
    intro d x M hd hM
    obtain ⟨q, rfl⟩ := succ_of hM
    have h1 := (hf d (by omega)).1
    rw [Nat.zero_add] at h1
    rw [g_Found_bits_L2, if_neg (show ¬ (30 : Int32) ≤ nI d from nI_ge (b := 30) (by omega) (by omega)), if_neg (nI_in (by omega) (by omega)), if_neg (nI_in (by omega) (by omega)), exD_ok d (by omega), Option.bind_some, nI_clamp (n := d) (by omega), hc d (by omega), h1, nI_add, pk_mul, nI_add, nI_1]
    have r := ih (d + 1) x q (by omega) (by omega)
    have e1 : sw c (wD len) (d + 1) = sw c (wD len) d + c d * (len d + eD d) := rfl
    rw [e1, ← Nat.add_assoc] at r
    exact r
theorem fb1 {sc fs_ dc fd : Nat → Int32} {len1 len2 c1 c2 : Nat → Nat} {N : Nat} (hN : 100000 ≤ N) (hc1 : ∀ s, s < 286 → sc s = nI (c1 s)) (hf1 : mt fs_ 0 288 len1) (hc2 : ∀ d, d < 30 → dc d = nI (c2 d)) (hf2 : mt fd 0 288 len2) : ∀ (e s M : Nat), s + e = 286 → e < M → g_Found_bits_L1 N 286 sc 288 fs_ 30 dc 288 fd M (nI (sw c1 (wS len1) s)) (nI s) = some (nI (sw c1 (wS len1) 286 + sw c2 (wD len2) 30)) := by
  intro e
  induction e with
  | zero =>
    intro s M hs hM
    obtain ⟨q, rfl⟩ := succ_of hM
    rw [g_Found_bits_L1, if_pos (show (286 : Int32) ≤ nI s from nI_le (a := 286) (by omega) (by omega)), show s = 286 by omega]
    generalize sw c1 (wS len1) 286 = X
    have r := fb2 hc2 hf2 30 0 X N (by omega) (by omega)
    rw [show sw c2 (wD len2) 0 = 0 from rfl, Nat.add_zero] at r
    exact r
  | succ e ih =>
    intro s M hs hM
    obtain ⟨q, rfl⟩ := succ_of hM
    have h1 := (hf1 s (by omega)).1
    rw [Nat.zero_add] at h1
    rw [g_Found_bits_L1, if_neg (show ¬ (286 : Int32) ≤ nI s from nI_ge (b := 286) (by omega) (by omega)), if_neg (nI_in (by omega) (by omega)), if_neg (nI_in (by omega) (by omega)), exS_ok s (by omega), Option.bind_some, nI_clamp (n := s) (by omega), hc1 s (by omega), h1, nI_add, pk_mul, nI_add, nI_1]
    have r := ih (s + 1) q (by omega) (by omega)
    have e1 : sw c1 (wS len1) (s + 1) = sw c1 (wS len1) s + c1 s * (len1 s + eS s) := rfl
    rw [e1] at r
    exact r
/-- the bits of a token -/
def tw (A V : Nat → Int32) (len1 len2 : Nat → Nat) (t : Nat) : Nat := if A t = 0 then len1 (tS A V t) else len1 (tS A V t) + eS (tS A V t) + (len2 (tD A V t) + eD (tD A V t))
def bT (A V : Nat → Int32) (len1 len2 : Nat → Nat) : Nat → Nat
  | 0 => 0
  | t + 1 => bT A V len1 len2 t + tw A V len1 len2 t
theorem tok_in {it A V : Nat → Int32} {k t : Nat} (h : tk k it A V) (ht : t < k) : (∃ v, v < 256 ∧ A t = nI 0 ∧ V t = nI v ∧ it t = nI v ∧ tS A V t = v ∧ tD A V t = 99 ∧ A t = 0) ∨ (∃ l v, 3 ≤ l ∧ l ≤ 258 ∧ 1 ≤ v ∧ v ≤ 8191 ∧ A t = nI l ∧ V t = nI v ∧ it t = nI (l * 65536 + v) ∧ tS A V t = lS l ∧ tD A V t = dS v ∧ ¬ A t = 0) := by
  obtain ⟨l, v, ho, h1, h2, h3⟩ := h t ht
  rcases ho with ⟨rfl, hv⟩ | ⟨a, b, c, d⟩
  · refine Or.inl ⟨v, hv, h2, h3, by rw [h1]; congr 1; omega, ?_, ?_, h2⟩
    · unfold tS; rw [if_pos (show A t = 0 from h2), h3, nI_clamp (n := v) (by omega)]
    · unfold tD; rw [if_pos (show A t = 0 from h2)]
  · have nz : ¬ A t = 0 := by rw [h2]; exact nI_ne0 (by omega) (by omega)
    refine Or.inr ⟨l, v, a, b, c, d, h2, h3, h1, ?_, ?_, nz⟩
    · unfold tS; rw [if_neg nz, h2, nI_clamp (n := l) (by omega)]
    · unfold tD; rw [if_neg nz, h3, nI_clamp (n := v) (by omega)]
theorem eS_low {s : Nat} (h : s < 265) : eS s = 0 := by unfold eS; rw [if_pos (Or.inl h)]
theorem sum_tok {it A V : Nat → Int32} {len1 len2 : Nat → Nat} {k : Nat} (h : tk k it A V) : ∀ j, j ≤ k → sw (cS A V j) (wS len1) 286 + sw (cD A V j) (wD len2) 30 = len1 256 + bT A V len1 len2 j := by
  intro j
  induction j with
  | zero =>
    intro _
    have e1 : sw (cS A V 0) (wS len1) 286 = sw (fun s => (fun _ => 0) s + (if 256 = s then 1 else 0)) (wS len1) 286 := sw_ext 286 (fun s _ => by
      show 0 + (if s = 256 then 1 else 0) = 0 + (if 256 = s then 1 else 0)
      by_cases z : s = 256
      · rw [if_pos z, if_pos z.symm]
      · rw [if_neg z, if_neg (fun y => z y.symm)])
    rw [e1, sw_inc, if_pos (by decide), sw_zero (c := fun _ => 0) 286 (fun _ _ => rfl), sw_zero (c := cD A V 0) 30 (fun _ _ => rfl)]
    show 0 + (len1 256 + eS 256) + 0 = len1 256 + 0
    rw [eS_low (by decide)]
    omega
  | succ j ih =>
    intro hj
    have r := ih (by omega)
    have e1 : sw (cS A V (j + 1)) (wS len1) 286 = sw (fun s => cS A V j s + (if tS A V j = s then 1 else 0)) (wS len1) 286 := sw_ext 286 (fun s _ => by
      unfold cS
      rw [ct_s]
      simp only [decide_eq_true_eq]
      omega)
    have e2 : sw (cD A V (j + 1)) (wD len2) 30 = sw (fun d => cD A V j d + (if tD A V j = d then 1 else 0)) (wD len2) 30 := sw_ext 30 (fun d _ => by
      unfold cD
      rw [ct_s]
      simp only [decide_eq_true_eq])
    rw [e1, e2, sw_inc, sw_inc]
    show _ = len1 256 + (bT A V len1 len2 j + tw A V len1 len2 j)
    rcases tok_in h (show j < k by omega) with ⟨v, hv, a1, a2, a3, a4, a5, a6⟩ | ⟨l, v, b1, b2, b3, b4, a1, a2, a3, a4, a5, a6⟩
    · have et : tw A V len1 len2 j = len1 v := by unfold tw; rw [if_pos a6, a4]
      rw [et, a4, a5, if_pos (by omega), if_neg (by omega)]
      show sw (cS A V j) (wS len1) 286 + (len1 v + eS v) + (sw (cD A V j) (wD len2) 30 + 0) = _
      rw [eS_low (by omega)]
      omega
    · have et : tw A V len1 len2 j = len1 (lS l) + eS (lS l) + (len2 (dS v) + eD (dS v)) := by unfold tw; rw [if_neg a6, a4, a5]
      have hl := lS_in b1 b2
      have hd := dS_in b3 b4
      rw [et, a4, a5, if_pos (by omega), if_pos (by omega)]
      show sw (cS A V j) (wS len1) 286 + (len1 (lS l) + eS (lS l)) + (sw (cD A V j) (wD len2) 30 + (len2 (dS v) + eD (dS v))) = _
      omega
theorem bits_cls {it A V sc dc fs_ fd : Nat → Int32} {len1 len2 : Nat → Nat} {k N : Nat} (hN : 100000 ≤ N) (h : tk k it A V) (hk : ks sc dc A V k) (hf1 : mt fs_ 0 288 len1) (hf2 : mt fd 0 288 len2) : g_Found_bits_0 N 286 sc 288 fs_ 30 dc 288 fd = some (nI (len1 256 + bT A V len1 len2 k)) := by
  rw [g_Found_bits_0, ← sum_tok h k (Nat.le_refl _)]
  exact fb1 hN hk.1 hf1 hk.2 hf2 286 0 N (by omega) (by omega)
theorem eSl {s : Nat} (h1 : 257 ≤ s) (h2 : s ≤ 285) : g_Mo_lengthBits_0 (nI s) = some (nI (eS s)) ∧ g_Mo_lengthBase_0 (nI s) = some (nI (bS s)) ∧ g_Bp_extraOfSymbol_0 (nI s) = some (nI (eS s)) ∧ g_Bp_baseOfSymbol_0 (nI s) = some (nI (bS s)) ∧ eS s ≤ 5 := by
  obtain ⟨j, rfl⟩ : ∃ j, s = 257 + j := ⟨s - 257, by omega⟩
  obtain ⟨a, b, c, d, e, _⟩ := eS_ok j (by omega)
  exact ⟨b, d, a, c, e⟩
theorem bits_loop {it A V ln : Nat → Int32} {len1 len2 : Nat → Nat} {k N : Nat} (hN : 100000 ≤ N) (hk : k ≤ 4096) (h : tk k it A V) (m1 : mt ln 0 288 len1) (m2 : mt ln 288 32 len2) : ∀ (d t M : Nat), t + d = k → d < M → g_Mo_bitsOfTokens_L1 N 320 ln (nI k) 4096 A 4096 V M (nI (len1 256 + bT A V len1 len2 t)) (nI t) = some (nI (len1 256 + bT A V len1 len2 k)) := by
  have m1' : ∀ s, s < 288 → ln s = nI (len1 s) := fun s hs => by have := (m1 s hs).1; rwa [Nat.zero_add] at this
  intro d
  induction d with
  | zero =>
    intro t M ht hM
    obtain ⟨q, rfl⟩ := succ_of hM
    rw [g_Mo_bitsOfTokens_L1, if_pos (nI_le (by omega) (by omega)), show t = k by omega]
  | succ d ih =>
    intro t M ht hM
    obtain ⟨q, rfl⟩ := succ_of hM
    have r := ih (t + 1) q (by omega) (by omega)
    have eb : bT A V len1 len2 (t + 1) = bT A V len1 len2 t + tw A V len1 len2 t := rfl
    rw [eb, ← Nat.add_assoc] at r
    rw [g_Mo_bitsOfTokens_L1, if_neg (nI_ge (by omega) (by omega)), if_neg (nI_in (by omega) (by omega)), nI_clamp (n := t) (by omega), if_neg (nI_in2 (by omega) (by omega)), nI_1]
    rcases tok_in h (show t < k by omega) with ⟨v, hv, a1, a2, a3, a4, a5, a6⟩ | ⟨l, v, b1, b2, b3, b4, a1, a2, a3, a4, a5, a6⟩
    · have et : tw A V len1 len2 t = len1 v := by unfold tw; rw [if_pos a6, a4]
      rw [if_pos a6, a2, if_neg (nI_in (by omega) (by omega)), nI_clamp (n := v) (by omega), m1' v (by omega), nI_add]
      rw [et] at r
      exact r
    · have et : tw A V len1 len2 t = len1 (lS l) + eS (lS l) + (len2 (dS v) + eD (dS v)) := by unfold tw; rw [if_neg a6, a4, a5]
      have hl := lS_in b1 b2
      have hd := dS_in b3 b4
      obtain ⟨s1, s2, s3, s4, s5⟩ := eSl hl.1 hl.2
      rw [if_neg a6, a1, sL_ref b1 b2 hN, Option.bind_some, if_neg (nI_in2 (by omega) (by omega)), a2, sD_ref b3 b4 hN, Option.bind_some, if_neg (nI_in (by omega) (by omega)), s1, Option.bind_some, z_288, nI_add, if_neg (nI_in (by omega) (by omega)), (eD_ok (dS v) (by omega)).2.1, Option.bind_some, nI_clamp (n := lS l) (by omega), nI_clamp (n := 288 + dS v) (by omega), m1' _ (by omega), (m2 (dS v) (by omega)).1, nI_add, nI_add, nI_add, nI_add]
      rw [et] at r
      rw [show len1 256 + bT A V len1 len2 t + len1 (lS l) + eS (lS l) + len2 (dS v) + eD (dS v) = len1 256 + bT A V len1 len2 t + (len1 (lS l) + eS (lS l) + (len2 (dS v) + eD (dS v))) by omega]
      exact r
theorem bits_ref {it A V ln : Nat → Int32} {len1 len2 : Nat → Nat} {k N : Nat} (hN : 100000 ≤ N) (hk : k ≤ 4096) (h : tk k it A V) (m1 : mt ln 0 288 len1) (m2 : mt ln 288 32 len2) : g_Mo_bitsOfTokens_0 N 320 ln (nI k) 4096 A 4096 V = some (nI (len1 256 + bT A V len1 len2 k)) := by
  have c : (256 : Int32).toNatClampNeg = 256 := by decide
  have e := (m1 256 (by decide)).1
  rw [Nat.zero_add] at e
  rw [g_Mo_bitsOfTokens_0, if_neg (by decide), c, e]
  exact bits_loop hN hk h m1 m2 k 0 N (by omega) (by omega)
/-- the bits of what is told -/
def sT (st : Nat → Int32) (len : Nat → Nat) : Nat → Nat
  | 0 => 0
  | j + 1 => sT st len j + (len (st j).toNatClampNeg + exb (st j).toNatClampNeg)
theorem sum_told {it mo cc st sm sc : Nat → Int32} {len : Nat → Nat} {k : Nat} (h : ti k it mo cc st sm sc) : ∀ j, j ≤ k → sw (cT st j) (fun s => len s + exb s) 19 = sT st len j := by
  intro j
  induction j with
  | zero => intro _; exact sw_zero 19 (fun _ _ => rfl)
  | succ j ih =>
    intro hj
    have e1 : sw (cT st (j + 1)) (fun s => len s + exb s) 19 = sw (fun s => cT st j s + (if (st j).toNatClampNeg = s then 1 else 0)) (fun s => len s + exb s) 19 := sw_ext 19 (fun s _ => by
      unfold cT
      rw [ct_s]
      simp only [decide_eq_true_eq])
    obtain ⟨s, hs, b1, b2, b3⟩ := h.1 j (by omega)
    have e2 : (st j).toNatClampNeg = s := by rw [b2, nI_clamp (n := s) (by omega)]
    rw [e1, sw_inc, ih (by omega), e2, if_pos hs]
    show _ = sT st len j + (len (st j).toNatClampNeg + exb (st j).toNatClampNeg)
    rw [e2]
theorem tb_loop {cc cl : Nat → Int32} {len c : Nat → Nat} (hc : ∀ s, s < 19 → cc s = nI (c s)) (hf : mt cl 0 288 len) : ∀ (e s x M : Nat), s + e = 19 → e < M → g_Tale_bits_L1 19 cc 288 cl M (nI (x + sw c (fun s => len s + exb s) s)) (nI s) = some (nI (x + sw c (fun s => len s + exb s) 19)) := by
  intro e
  induction e with
  | zero =>
    intro s x M hs hM
    obtain ⟨q, rfl⟩ := succ_of hM
    rw [g_Tale_bits_L1, if_pos (show (19 : Int32) ≤ nI s from nI_le (a := 19) (by omega) (by omega)), show s = 19 by omega]
  | succ e ih =>
    intro s x M hs hM
    obtain ⟨q, rfl⟩ := succ_of hM
    have h1 := (hf s (by omega)).1
    rw [Nat.zero_add] at h1
    rw [g_Tale_bits_L1, if_neg (show ¬ (19 : Int32) ≤ nI s from nI_ge (b := 19) (by omega) (by omega)), if_neg (nI_in (by omega) (by omega)), if_neg (nI_in (by omega) (by omega)), exb_ok s (by omega), Option.bind_some, nI_clamp (n := s) (by omega), hc s (by omega), h1, nI_add, pk_mul, nI_add, nI_1]
    have r := ih (s + 1) x q (by omega) (by omega)
    have e1 : sw c (fun s => len s + exb s) (s + 1) = sw c (fun s => len s + exb s) s + c s * (len s + exb s) := rfl
    rw [e1, ← Nat.add_assoc] at r
    exact r
theorem tbits_cls {it mo cc st sm sc cl : Nat → Int32} {len : Nat → Nat} {k c N : Nat} (hN : 100000 ≤ N) (h : ti k it mo cc st sm sc) (hf : mt cl 0 288 len) : g_Tale_bits_0 N (nI c) 19 cc 288 cl = some (nI (14 + 3 * c + sT st len k)) := by
  rw [g_Tale_bits_0, z_3, pk_mul, z_14, nI_add, ← sum_told (len := len) h k (Nat.le_refl _)]
  exact tb_loop (fun s hs => (h.2 s hs).1) hf 19 0 (14 + 3 * c) N (by omega) (by omega)
theorem stb_ok : ∀ s, s < 19 → g_Mo_stepBits_0 (nI s) = some (nI (exb s)) := by decide +kernel
