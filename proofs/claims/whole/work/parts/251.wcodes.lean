theorem nI_in2 {c n : Nat} (h : c < n) (hn : n < 2 ^ 31) : ¬ (nI c < 0 ∨ n ≤ c) := by
  rintro (z | z)
  · exact nI_pos (by omega) z
  · omega
/-- the bits of a code turned round -/
def tn (c : Nat) : Nat → Nat
  | 0 => 0
  | i + 1 => 2 * tn c i + c / 2 ^ i % 2
theorem tn_lt (c : Nat) : ∀ k, tn c k < 2 ^ k := by
  intro k
  induction k with
  | zero => exact Nat.one_pos
  | succ k ih =>
    show 2 * tn c k + c / 2 ^ k % 2 < 2 ^ (k + 1)
    rw [Nat.pow_succ]
    have := Nat.mod_lt (c / 2 ^ k) (show 0 < 2 by decide)
    omega
theorem tn_bit (c : Nat) : ∀ k i, i < k → tn c k / 2 ^ i % 2 = c / 2 ^ (k - 1 - i) % 2 := by
  intro k
  induction k with
  | zero => intro i hi; omega
  | succ k ih =>
    intro i hi
    show (2 * tn c k + c / 2 ^ k % 2) / 2 ^ i % 2 = _
    have hb := Nat.mod_lt (c / 2 ^ k) (show 0 < 2 by decide)
    cases i with
    | zero =>
      rw [Nat.pow_zero, Nat.div_one, show k + 1 - 1 - 0 = k by omega]
      omega
    | succ j =>
      have e : (2 * tn c k + c / 2 ^ k % 2) / 2 ^ (j + 1) = tn c k / 2 ^ j := by
        rw [Nat.pow_succ, Nat.mul_comm (2 ^ j) 2, ← Nat.div_div_eq_div_mul]
        congr 1
        omega
      rw [e, ih j (by omega), show k + 1 - 1 - (j + 1) = k - 1 - j by omega]
theorem bit_n {c i : Nat} (hc : c < 2 ^ 31) (hi : i < 31) : (nI c >>> (nI i &&& 31)) &&& 1 = nI (c / 2 ^ i % 2) := by
  rw [pk_shrN hc _ i (s_l i (by omega))]
  exact pk_andN (m := 1) (Nat.lt_of_le_of_lt (Nat.div_le_self _ _) (by omega)) 1 (by decide)
theorem turned_loop {c k : Nat} (hc : c < 2 ^ 31) (hk : k ≤ 15) : ∀ (d i M : Nat), i + d = k → d < M → g_WriteCodes_turned_L1 M (nI c) (nI k) (nI (tn c i)) (nI i) = some (nI (tn c k)) := by
  intro d
  induction d with
  | zero =>
    intro i M hi hM
    obtain ⟨m, rfl⟩ := succ_of hM
    rw [g_WriteCodes_turned_L1, if_pos (nI_le (by omega) (by omega)), show i = k by omega]
  | succ d ih =>
    intro i M hi hM
    obtain ⟨m, rfl⟩ := succ_of hM
    rw [g_WriteCodes_turned_L1, if_neg (nI_ge (by omega) (by omega)), bit_n hc (by omega), z_2, pk_mul, nI_add, nI_1]
    exact ih (i + 1) m (by omega) (by omega)
theorem fs_b (len : Nat → Nat) (n : Nat) : ∀ k, fs len n k + n ≤ n * 2 ^ k := by
  intro k
  induction k with
  | zero => show 0 + n ≤ n * 1; omega
  | succ k ih =>
    show 2 * fs len n k + cn len (k + 1) n + n ≤ n * 2 ^ (k + 1)
    have := cn_le len (k + 1) n
    rw [Nat.pow_succ, ← Nat.mul_assoc]
    omega
theorem fs_max {len : Nat → Nat} {n k : Nat} (hn : n ≤ 288) (hk : k ≤ 15) : fs len n k ≤ 10000000 := by
  have h1 := fs_b len n k
  have h2 : 2 ^ k ≤ 2 ^ 15 := Nat.pow_le_pow_right (by decide) hk
  have h3 : n * 2 ^ k ≤ 288 * 2 ^ 15 := Nat.mul_le_mul hn h2
  omega
/-- the code of a symbol -/
def cdv (len : Nat → Nat) (n s : Nat) : Nat := 2 * fs len n (len s - 1) + cn len (len s) s
theorem fs_pad {len : Nat → Nat} {n n2 : Nat} (hn : n ≤ n2) (hz : ∀ s, n ≤ s → s < n2 → len s = 0) : ∀ k, fs len n2 k = fs len n k := by
  intro k
  obtain ⟨d, rfl⟩ : ∃ d, n2 = n + d := ⟨n2 - n, by omega⟩
  induction k with
  | zero => rfl
  | succ k ih =>
    show 2 * fs len (n + d) k + cn len (k + 1) (n + d) = 2 * fs len n k + cn len (k + 1) n
    rw [ih, cn_pad (by omega) d hz]
def wk (len : Nat → Nat) (ft : Nat → Int32) : Prop := ∀ s, s < 288 → 1 ≤ len s → ft s = nI (tn (cdv len 288 s) (len s))
theorem mc2_loop {fl : Nat → Int32} {len : Nat → Nat} {N k : Nat} {K : Int32 → Int32 → (Nat → Int32) → Option (Nat → Int32)} (h : mt fl 0 288 len) (hN : 100000 ≤ N) (hk : k < 15) : ∀ (d s : Nat) (ft : Nat → Int32) (M : Nat), s + d = 288 → d < M → (∀ j, j < 288 → 1 ≤ len j → (len j ≤ k ∨ (len j = k + 1 ∧ j < s)) → ft j = nI (tn (cdv len 288 j) (len j))) →
    ∃ ft', g_WriteCodes_makeCodes_L2 N 288 fl 288 K M (nI (2 * fs len 288 k + cn len (k + 1) s)) (nI (k + 1)) (nI s) ft = K (nI (fs len 288 (k + 1))) (nI (k + 2)) ft' ∧ (∀ j, j < 288 → 1 ≤ len j → len j ≤ k + 1 → ft' j = nI (tn (cdv len 288 j) (len j))) := by
  intro d
  induction d with
  | zero =>
    intro s ft M hs hM hf
    obtain ⟨m, rfl⟩ := succ_of hM
    have e : s = 288 := by omega
    subst e
    refine ⟨ft, ?_, fun j h1 h2 h3 => hf j h1 h2 (by omega)⟩
    rw [g_WriteCodes_makeCodes_L2, if_pos (by decide), nI_1]
    rfl
  | succ d ih =>
    intro s ft M hs hM hf
    obtain ⟨m, rfl⟩ := succ_of hM
    have hs1 := h s (by omega)
    rw [Nat.zero_add] at hs1
    have hfs := fs_max (len := len) (n := 288) (k := k) (by omega) (by omega)
    have hcn := cn_le len (k + 1) s
    rw [g_WriteCodes_makeCodes_L2, if_neg (show ¬ (288 : Int32) ≤ nI s from nI_ge (b := 288) (by omega) (by omega)), if_neg (nI_in (by omega) (by omega)), nI_clamp (by omega), hs1.1]
    by_cases c : len s = k + 1
    · have ec : cn len (k + 1) (s + 1) = cn len (k + 1) s + 1 := by
        show cn len (k + 1) s + (if len s = k + 1 then 1 else 0) = _
        rw [if_pos c]
      have et : g_WriteCodes_turned_0 N (nI (2 * fs len 288 k + cn len (k + 1) s)) (nI (k + 1)) = some (nI (tn (2 * fs len 288 k + cn len (k + 1) s) (k + 1))) := by
        rw [g_WriteCodes_turned_0]
        exact turned_loop (by omega) (by omega) (k + 1) 0 N (by omega) (by omega)
      rw [if_pos (by rw [c]), et, Option.bind_some, if_neg (nI_in2 (by omega) (by omega)), nI_1, nI_1, Nat.add_assoc, ← ec]
      refine ih (s + 1) _ m (by omega) (by omega) (fun j h1 h2 h3 => ?_)
      by_cases z : j = s
      · subst z
        rw [pk_us]
        unfold cdv
        rw [c]
        rfl
      · rw [pk_un z]
        exact hf j h1 h2 (by omega)
    · have ec : cn len (k + 1) (s + 1) = cn len (k + 1) s := by
        show cn len (k + 1) s + (if len s = k + 1 then 1 else 0) = _
        rw [if_neg c]; rfl
      rw [if_neg (by rw [nI_eq (by omega) (by omega)]; exact c), nI_1, ← ec]
      refine ih (s + 1) ft m (by omega) (by omega) (fun j h1 h2 h3 => hf j h1 h2 ?_)
      rcases h3 with h3 | ⟨h3, h4⟩
      · exact Or.inl h3
      · by_cases z : j = s
        · exact absurd (z ▸ h3) c
        · exact Or.inr ⟨h3, by omega⟩
theorem mc1_loop {fl : Nat → Int32} {len : Nat → Nat} {N : Nat} (h : mt fl 0 288 len) (hN : 100000 ≤ N) : ∀ (d k : Nat) (ft : Nat → Int32) (M : Nat), k + d = 15 → d < M → (∀ j, j < 288 → 1 ≤ len j → len j ≤ k → ft j = nI (tn (cdv len 288 j) (len j))) →
    ∃ ft', g_WriteCodes_makeCodes_L1 N 288 fl 288 M (nI (fs len 288 k)) (nI (k + 1)) ft = some ft' ∧ wk len ft' := by
  intro d
  induction d with
  | zero =>
    intro k ft M hk hM hf
    obtain ⟨m, rfl⟩ := succ_of hM
    refine ⟨ft, ?_, fun s h1 h2 => hf s h1 h2 ?_⟩
    · rw [g_WriteCodes_makeCodes_L1, if_pos (show (15 : Int32) < nI (k + 1) from nI_lt (a := 15) (by omega) (by omega))]
    · have := (h s h1).2; omega
  | succ d ih =>
    intro k ft M hk hM hf
    obtain ⟨m, rfl⟩ := succ_of hM
    rw [g_WriteCodes_makeCodes_L1, if_neg (show ¬ (15 : Int32) < nI (k + 1) from nI_nlt (b := k + 1) (a := 15) (by omega) (by omega)), z_2, pk_mul]
    obtain ⟨ft', e1, e2⟩ := mc2_loop (k := k) (K := g_WriteCodes_makeCodes_L1 N 288 fl 288 m) h hN (by omega) 288 0 ft N (by omega) (by omega) (fun j h1 h2 h3 => hf j h1 h2 (by omega))
    have e1' : g_WriteCodes_makeCodes_L2 N 288 fl 288 (g_WriteCodes_makeCodes_L1 N 288 fl 288 m) N (nI (2 * fs len 288 k)) (nI (k + 1)) 0 ft = g_WriteCodes_makeCodes_L1 N 288 fl 288 m (nI (fs len 288 (k + 1))) (nI (k + 2)) ft' := e1
    rw [e1']
    exact ih (k + 1) ft' m (by omega) (by omega) e2
theorem makeCodes_ok {fl ft : Nat → Int32} {len : Nat → Nat} {N : Nat} (h : mt fl 0 288 len) (hN : 100000 ≤ N) : ∃ ft', g_WriteCodes_makeCodes_0 N 288 fl 288 ft = some ft' ∧ wk len ft' := by
  rw [g_WriteCodes_makeCodes_0]
  exact mc1_loop h hN 15 0 ft N (by omega) (by omega) (fun j h1 h2 h3 => by omega)
theorem co2_loop {fm : Nat → Int32} {len : Nat → Nat} {a n n0 s l v : Nat} {K : Int32 → Int32 → Int32 → Int32 → Int32 → Option Int32} (h : mt fm a n len) (ha : a + n ≤ n0) (hn0 : n0 ≤ 1000) (hs : s < n) (hl : l ≤ len s) (hv : v ≤ 20000000) : ∀ (d k M : Nat), k + d = n → d < M →
    g_Mo_codeOf_L2 n0 fm K M (nI a) (nI n) (nI s) (nI (v + cn len l (if l < len s ∨ k ≤ s then k else s))) (nI l) (nI k) = K (nI a) (nI n) (nI s) (nI (v + cn len l (if l < len s then n else s))) (nI (l + 1)) := by
  intro d
  have hls := h s hs
  induction d with
  | zero =>
    intro k M hk hM
    obtain ⟨m, rfl⟩ := succ_of hM
    have e : k = n := by omega
    subst e
    rw [g_Mo_codeOf_L2, if_pos (nI_le (Nat.le_refl _) (by omega)), nI_1]
    by_cases c : l < len s
    · rw [if_pos (Or.inl c), if_pos c]
    · rw [if_neg (by omega), if_neg c]
  | succ d ih =>
    intro k M hk hM
    obtain ⟨m, rfl⟩ := succ_of hM
    have hlk := h k (by omega)
    have r := ih (k + 1) m (by omega) (by omega)
    have n1 : ¬ (nI (a + s) < 0 ∨ n0 ≤ (nI (a + s)).toNatClampNeg) := nI_in (by omega) (by omega)
    have n2 : ¬ (nI (a + k) < 0 ∨ n0 ≤ (nI (a + k)).toNatClampNeg) := nI_in (by omega) (by omega)
    rw [g_Mo_codeOf_L2, if_neg (nI_ge (by omega) (by omega)), nI_add, if_neg n1, nI_clamp (by omega), hls.1]
    by_cases c : l < len s ∨ k < s
    · have eJ : (if nI l < nI (len s) then g_Mo_codeOf_J1 n0 fm (g_Mo_codeOf_L2 n0 fm K m) (nI a) (nI n) (nI s) (nI (v + cn len l (if l < len s ∨ k ≤ s then k else s))) (nI l) (nI k) else if nI s ≤ nI k then g_Mo_codeOf_J2 n0 fm (g_Mo_codeOf_L2 n0 fm K m) (nI a) (nI n) (nI s) (nI (v + cn len l (if l < len s ∨ k ≤ s then k else s))) (nI l) (nI k) 0 else g_Mo_codeOf_J1 n0 fm (g_Mo_codeOf_L2 n0 fm K m) (nI a) (nI n) (nI s) (nI (v + cn len l (if l < len s ∨ k ≤ s then k else s))) (nI l) (nI k)) = g_Mo_codeOf_J1 n0 fm (g_Mo_codeOf_L2 n0 fm K m) (nI a) (nI n) (nI s) (nI (v + cn len l k)) (nI l) (nI k) := by
        rw [if_pos (show l < len s ∨ k ≤ s by omega)]
        by_cases c1 : l < len s
        · rw [if_pos (nI_lt c1 (by omega))]
        · rw [if_neg (nI_nlt (by omega) (by omega)), if_neg (nI_ge (by omega) (by omega))]
      rw [eJ, g_Mo_codeOf_J1, g_Mo_codeOf_J2, nI_add, if_neg n2, nI_clamp (by omega), hlk.1, nI_1, nI_1]
      rw [if_pos (show l < len s ∨ k + 1 ≤ s by omega)] at r
      by_cases c2 : len k = l
      · have ec : cn len l (k + 1) = cn len l k + 1 := by
          show cn len l k + (if len k = l then 1 else 0) = _
          rw [if_pos c2]
        rw [if_pos (by rw [c2]), if_neg (by decide), Nat.add_assoc, ← ec]
        exact r
      · have ec : cn len l (k + 1) = cn len l k := by
          show cn len l k + (if len k = l then 1 else 0) = _
          rw [if_neg c2]; rfl
        rw [if_neg (by rw [nI_eq (by omega) (by omega)]; exact c2), ← ec]
        exact r
    · have e1 : (if l < len s ∨ k ≤ s then k else s) = s := by
        by_cases z : k ≤ s
        · rw [if_pos (Or.inr z)]; omega
        · rw [if_neg (by omega)]
      rw [e1, if_neg (nI_nlt (by omega) (by omega)), if_pos (nI_le (by omega) (by omega)), g_Mo_codeOf_J2, nI_add, if_neg n2, nI_clamp (by omega), hlk.1, nI_1, nI_1, if_pos rfl]
      rw [if_neg (show ¬ (l < len s ∨ k + 1 ≤ s) by omega)] at r
      by_cases c2 : nI (len k) = nI l
      · rw [if_pos c2]; exact r
      · rw [if_neg c2]; exact r
theorem co1_loop {fm : Nat → Int32} {len : Nat → Nat} {a n n0 s N : Nat} (h : mt fm a n len) (ha : a + n ≤ n0) (hn0 : n0 ≤ 1000) (hn : n ≤ 288) (hs : s < n) (hN : 100000 ≤ N) (h0 : 1 ≤ len s) : ∀ (d l M : Nat), l + d + 1 = len s → d + 1 < M →
    g_Mo_codeOf_L1 N n0 fm M (nI a) (nI n) (nI s) (nI (fs len n l)) (nI (l + 1)) = some (nI (cdv len n s)) := by
  have hls := h s hs
  intro d
  induction d with
  | zero =>
    intro l M hl hM
    obtain ⟨m, rfl⟩ := succ_of (show 0 < M by omega)
    obtain ⟨m', rfl⟩ := succ_of (show 0 < m by omega)
    have hfs := fs_max (len := len) (n := n) (k := l) hn (by omega)
    rw [g_Mo_codeOf_L1, nI_add, if_neg (nI_in (by omega) (by omega)), nI_clamp (by omega), hls.1, if_neg (nI_nlt (by omega) (by omega)), z_2, pk_mul]
    have r := co2_loop (l := l + 1) (v := 2 * fs len n l) (K := g_Mo_codeOf_L1 N n0 fm (m' + 1)) h ha hn0 hs (by omega) (by omega) n 0 N (by omega) (by omega)
    rw [if_neg (show ¬ l + 1 < len s by omega), if_pos (Or.inr (Nat.zero_le _))] at r
    have r' : g_Mo_codeOf_L2 n0 fm (g_Mo_codeOf_L1 N n0 fm (m' + 1)) N (nI a) (nI n) (nI s) (nI (2 * fs len n l)) (nI (l + 1)) 0 = g_Mo_codeOf_L1 N n0 fm (m' + 1) (nI a) (nI n) (nI s) (nI (2 * fs len n l + cn len (l + 1) s)) (nI (l + 1 + 1)) := r
    rw [r', g_Mo_codeOf_L1, nI_add, if_neg (nI_in (by omega) (by omega)), nI_clamp (by omega), hls.1, if_pos (nI_lt (by omega) (by omega))]
    unfold cdv
    rw [show len s - 1 = l by omega, show len s = l + 1 by omega]
  | succ d ih =>
    intro l M hl hM
    obtain ⟨m, rfl⟩ := succ_of (show 0 < M by omega)
    have hfs := fs_max (len := len) (n := n) (k := l) hn (by omega)
    rw [g_Mo_codeOf_L1, nI_add, if_neg (nI_in (by omega) (by omega)), nI_clamp (by omega), hls.1, if_neg (nI_nlt (by omega) (by omega)), z_2, pk_mul]
    have r := co2_loop (l := l + 1) (v := 2 * fs len n l) (K := g_Mo_codeOf_L1 N n0 fm m) h ha hn0 hs (by omega) (by omega) n 0 N (by omega) (by omega)
    rw [if_pos (show l + 1 < len s by omega), if_pos (Or.inr (Nat.zero_le _))] at r
    have r' : g_Mo_codeOf_L2 n0 fm (g_Mo_codeOf_L1 N n0 fm m) N (nI a) (nI n) (nI s) (nI (2 * fs len n l)) (nI (l + 1)) 0 = g_Mo_codeOf_L1 N n0 fm m (nI a) (nI n) (nI s) (nI (fs len n (l + 1))) (nI (l + 1 + 1)) := r
    rw [r']
    exact ih (l + 1) m (by omega) (by omega)
/-- one symbol's code, written by both -/
theorem sim_code {fl ft fm fo go : Nat → Int32} {len : Nat → Nat} {a n n0 s p N : Nat} (hc : mt fl 0 288 len) (hw : wk len ft) (h : mt fm a n len) (ha : a + n ≤ n0) (hn0 : n0 ≤ 1000) (hn : n ≤ 288) (hz : ∀ s, n ≤ s → s < 288 → len s = 0) (hs : s < n) (hN : 100000 ≤ N) (ho : wr fo go p) (hp : p + len s ≤ 72000) :
    ∃ fo' go', wr fo' go' (p + len s) ∧ g_WriteCodes_write_0 N 288 ft 288 fl 9000 (nI s) fo (nI ((p + 7) / 8)) (nI p) = some (fo', nI ((p + len s + 7) / 8), nI (p + len s)) ∧ g_Mo_writeCode_0 N n0 fm 9000 (nI a) (nI n) (nI s) go (nI ((p + 7) / 8)) (nI p) = some (go', nI ((p + len s + 7) / 8), nI (p + len s)) := by
  have hls := h s hs
  have hcs := (hc s (by omega)).1
  rw [Nat.zero_add] at hcs
  rw [g_WriteCodes_write_0, if_neg (nI_in (by omega) (by omega)), if_neg (nI_in (by omega) (by omega)), nI_clamp (by omega), hcs, g_Row_putNumber_0, g_Mo_writeCode_0, g_Mo_codeOf_0]
  by_cases c : len s = 0
  · rw [c]
    have e0 : g_Mo_codeOf_L1 N n0 fm N (nI a) (nI n) (nI s) 0 1 = some 0 := by
      obtain ⟨m, rfl⟩ := succ_of (show 0 < N by omega)
      rw [g_Mo_codeOf_L1, nI_add, if_neg (nI_in (by omega) (by omega)), nI_clamp (by omega), hls.1, c, if_pos (by decide)]
    obtain ⟨f1, g1, w1, w2, w3⟩ := code_loop (k := 0) (x := ft s) (c := 0) (by omega) (fun i hi => by omega) 0 0 p fo go N N (by omega) (by omega) (by omega) ho (by omega)
    have w2' : g_Row_putNumber_L1 9000 N (ft s) (nI 0) 0 fo (nI ((p + 7) / 8)) (nI p) = some (f1, nI ((p + 0 + 7) / 8), nI (p + 0)) := w2
    refine ⟨f1, g1, w1, ?_, ?_⟩
    · rw [w2', Option.bind_some]
    · rw [e0, Option.bind_some, nI_add, if_neg (nI_in (by omega) (by omega)), nI_clamp (by omega), hls.1, c]
      exact w3
  · have e0 := co1_loop h ha hn0 hn hs hN (by omega) (len s - 1) 0 N (by omega) (by omega)
    have e0' : g_Mo_codeOf_L1 N n0 fm N (nI a) (nI n) (nI s) 0 1 = some (nI (cdv len n s)) := e0
    have hcd : cdv len 288 s = cdv len n s := by
      unfold cdv
      rw [fs_pad hn hz]
    have hlt : cdv len n s < 2 ^ 31 := by
      have := fs_max (len := len) (n := n) (k := len s - 1) hn (by omega)
      have := cn_le len (len s) s
      unfold cdv
      omega
    have hft : ft s = nI (tn (cdv len n s) (len s)) := by rw [← hcd]; exact hw s (by omega) (by omega)
    have htl := tn_lt (cdv len n s) (len s)
    have htl2 : 2 ^ len s ≤ 2 ^ 15 := Nat.pow_le_pow_right (by decide) hls.2
    obtain ⟨f1, g1, w1, w2, w3⟩ := code_loop (k := len s) (x := ft s) (c := nI (cdv len n s)) (by omega) (fun i hi => by
      rw [hft, bit_n (by omega) (by omega), bit_n hlt (by omega), tn_bit _ _ _ hi]) (len s) 0 p fo go N N (by omega) (by omega) (by omega) ho hp
    have w2' : g_Row_putNumber_L1 9000 N (ft s) (nI (len s)) 0 fo (nI ((p + 7) / 8)) (nI p) = some (f1, nI ((p + len s + 7) / 8), nI (p + len s)) := w2
    refine ⟨f1, g1, w1, ?_, ?_⟩
    · rw [w2', Option.bind_some]
    · rw [e0', Option.bind_some, nI_add, if_neg (nI_in (by omega) (by omega)), nI_clamp (by omega), hls.1]
      exact w3
