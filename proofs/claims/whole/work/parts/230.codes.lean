/-- how many of the first n symbols have a code of length k -/
def cn (len : Nat → Nat) (k : Nat) : Nat → Nat
  | 0 => 0
  | n + 1 => cn len k n + (if len n = k then 1 else 0)
/-- how many have one of length k or longer -/
def cg (len : Nat → Nat) (k : Nat) : Nat → Nat
  | 0 => 0
  | n + 1 => cg len k n + (if k ≤ len n then 1 else 0)
/-- the weight of the codes that are longer than k -/
def lw (len : Nat → Nat) (k : Nat) : Nat → Nat
  | 0 => 0
  | n + 1 => lw len k n + (if k < len n then 2 ^ (15 - len n) else 0)
/-- what follows the last code of length k -/
def fs (len : Nat → Nat) (n : Nat) : Nat → Nat
  | 0 => 0
  | k + 1 => 2 * fs len n k + cn len (k + 1) n
/-- how many codes there are up to length k -/
def bf (len : Nat → Nat) (n : Nat) : Nat → Nat
  | 0 => 0
  | k + 1 => bf len n k + cn len (k + 1) n
theorem cn_le (len : Nat → Nat) (k : Nat) : ∀ n, cn len k n ≤ n := by
  intro n
  induction n with
  | zero => exact Nat.le_refl _
  | succ n ih =>
    show cn len k n + (if len n = k then 1 else 0) ≤ n + 1
    split <;> omega
theorem cg_le (len : Nat → Nat) (k : Nat) : ∀ n, cg len k n ≤ n := by
  intro n
  induction n with
  | zero => exact Nat.le_refl _
  | succ n ih =>
    show cg len k n + (if k ≤ len n then 1 else 0) ≤ n + 1
    split <;> omega
theorem cn_mono (len : Nat → Nat) (k : Nat) {a b : Nat} (h : a ≤ b) : cn len k a ≤ cn len k b := by
  induction b with
  | zero => rw [show a = 0 by omega]; exact Nat.le_refl _
  | succ b ih =>
    by_cases q : a = b + 1
    · rw [q]; exact Nat.le_refl _
    · exact Nat.le_trans (ih (by omega)) (Nat.le_add_right _ _)
theorem cn_ext {len len' : Nat → Nat} (k : Nat) : ∀ n, (∀ s, s < n → len s = len' s) → cn len k n = cn len' k n := by
  intro n
  induction n with
  | zero => intro _; rfl
  | succ n ih =>
    intro h
    show cn len k n + (if len n = k then 1 else 0) = cn len' k n + (if len' n = k then 1 else 0)
    rw [ih (fun s hs => h s (by omega)), h n (by omega)]
theorem cn_pad {len : Nat → Nat} {k a : Nat} (hk : 1 ≤ k) : ∀ d, (∀ s, a ≤ s → s < a + d → len s = 0) → cn len k (a + d) = cn len k a := by
  intro d
  induction d with
  | zero => intro _; rfl
  | succ d ih =>
    intro h
    show cn len k (a + d) + (if len (a + d) = k then 1 else 0) = _
    rw [ih (fun s h1 h2 => h s h1 (by omega)), if_neg (by rw [h (a + d) (by omega) (by omega)]; omega)]
    rfl
theorem lw_split (len : Nat → Nat) {k : Nat} (hk : k < 15) : ∀ n, (∀ s, s < n → len s ≤ 15) → lw len k n = lw len (k + 1) n + cn len (k + 1) n * 2 ^ (14 - k) := by
  intro n
  induction n with
  | zero => intro _; show 0 = 0 + 0 * _; omega
  | succ n ih =>
    intro h
    have e := ih (fun s hs => h s (by omega))
    have hn := h n (by omega)
    show lw len k n + (if k < len n then 2 ^ (15 - len n) else 0) = lw len (k + 1) n + (if k + 1 < len n then 2 ^ (15 - len n) else 0) + (cn len (k + 1) n + (if len n = k + 1 then 1 else 0)) * 2 ^ (14 - k)
    rw [Nat.add_mul, e]
    by_cases c1 : len n = k + 1
    · rw [if_pos (by omega), if_neg (by omega), if_pos c1, c1, show 15 - (k + 1) = 14 - k by omega]
      omega
    · by_cases c2 : k < len n
      · rw [if_pos c2, if_pos (by omega), if_neg c1]
        omega
      · rw [if_neg c2, if_neg (by omega), if_neg c1]
        omega
theorem kraft (len : Nat → Nat) (n : Nat) (h : ∀ s, s < n → len s ≤ 15) : ∀ k, k ≤ 15 → fs len n k * 2 ^ (15 - k) + lw len k n = lw len 0 n := by
  intro k
  induction k with
  | zero => intro _; show 0 * _ + _ = _; omega
  | succ k ih =>
    intro hk
    have e := ih (by omega)
    rw [lw_split len (by omega) n h] at e
    have e2 : (2 : Nat) ^ (15 - k) = 2 * 2 ^ (14 - k) := by
      rw [show 15 - k = (14 - k) + 1 by omega, Nat.pow_succ]; omega
    rw [e2] at e
    show (2 * fs len n k + cn len (k + 1) n) * 2 ^ (15 - (k + 1)) + lw len (k + 1) n = _
    rw [show 15 - (k + 1) = 14 - k by omega, Nat.add_mul]
    rw [← Nat.mul_assoc, Nat.mul_comm (fs len n k) 2] at e
    omega
theorem lw_pos {len : Nat → Nat} {k : Nat} : ∀ {n : Nat}, 0 < lw len k n → ∃ s, s < n ∧ k < len s := by
  intro n
  induction n with
  | zero => intro h; exact absurd h (Nat.lt_irrefl 0)
  | succ n ih =>
    intro h
    by_cases c : k < len n
    · exact ⟨n, by omega, c⟩
    · have h' : 0 < lw len k n + (if k < len n then 2 ^ (15 - len n) else 0) := h
      rw [if_neg c] at h'
      obtain ⟨s, h1, h2⟩ := ih (by omega)
      exact ⟨s, by omega, h2⟩
theorem lw_zero {len : Nat → Nat} {k : Nat} : ∀ {n : Nat}, (∀ s, s < n → len s ≤ k) → lw len k n = 0 := by
  intro n
  induction n with
  | zero => intro _; rfl
  | succ n ih =>
    intro h
    show lw len k n + (if k < len n then 2 ^ (15 - len n) else 0) = 0
    rw [ih (fun s hs => h s (by omega)), if_neg (by have := h n (by omega); omega)]
theorem cg_zero {len : Nat → Nat} {k : Nat} : ∀ {n : Nat}, (∀ s, s < n → len s < k) → cg len k n = 0 := by
  intro n
  induction n with
  | zero => intro _; rfl
  | succ n ih =>
    intro h
    show cg len k n + (if k ≤ len n then 1 else 0) = 0
    rw [ih (fun s hs => h s (by omega)), if_neg (by have := h n (by omega); omega)]
theorem cg_pos {len : Nat → Nat} {k : Nat} : ∀ {n s : Nat}, s < n → k ≤ len s → 0 < cg len k n := by
  intro n
  induction n with
  | zero => intro s h; exact absurd h (Nat.not_lt_zero s)
  | succ n ih =>
    intro s h1 h2
    show 0 < cg len k n + (if k ≤ len n then 1 else 0)
    by_cases c : s = n
    · subst c; rw [if_pos h2]; omega
    · have := ih (show s < n by omega) h2
      omega
theorem cn_pos {len : Nat → Nat} {k : Nat} : ∀ {n s : Nat}, s < n → len s = k → 0 < cn len k n := by
  intro n
  induction n with
  | zero => intro s h; exact absurd h (Nat.not_lt_zero s)
  | succ n ih =>
    intro s h1 h2
    show 0 < cn len k n + (if len n = k then 1 else 0)
    by_cases c : s = n
    · subst c; rw [if_pos h2]; omega
    · have := ih (show s < n by omega) h2
      omega
/-- the i-th symbol whose code has the length k -/
def nth (len : Nat → Nat) (n k i s : Nat) : Prop := s < n ∧ len s = k ∧ cn len k s = i
theorem nth_lt {len : Nat → Nat} {n k i s : Nat} (h : nth len n k i s) : i < cn len k n := by
  obtain ⟨h1, h2, h3⟩ := h
  have e : cn len k (s + 1) = cn len k s + 1 := by
    show cn len k s + (if len s = k then 1 else 0) = _
    rw [if_pos h2]
  have := cn_mono len k (show s + 1 ≤ n by omega)
  omega
theorem nth_one {len : Nat → Nat} {n m k i s t : Nat} (h : nth len n k i s) (h' : nth len m k i t) : s = t := by
  obtain ⟨h1, h2, h3⟩ := h
  obtain ⟨g1, g2, g3⟩ := h'
  have e : ∀ {a b : Nat}, len a = k → a < b → cn len k a < cn len k b := by
    intro a b ha hab
    have e1 : cn len k (a + 1) = cn len k a + 1 := by
      show cn len k a + (if len a = k then 1 else 0) = _
      rw [if_pos ha]
    have := cn_mono len k (show a + 1 ≤ b by omega)
    omega
  rcases Nat.lt_trichotomy s t with q | q | q
  · have := e h2 q; omega
  · exact q
  · have := e g2 q; omega
/-- lengths that make codes: whole, one of length 1, or none -/
def okc (len : Nat → Nat) (n : Nat) : Prop := lw len 0 n = 32768 ∨ (cg len 1 n = 1 ∧ lw len 0 n = 16384) ∨ cg len 1 n = 0
/-- the longest length -/
def top (len : Nat → Nat) (n l : Nat) : Prop := l ≤ 15 ∧ (∀ s, s < n → len s ≤ l) ∧ (l = 0 ∨ ∃ s, s < n ∧ len s = l)
theorem single {len : Nat → Nat} : ∀ {n : Nat}, (∀ s, s < n → len s ≤ 15) → cg len 1 n = 1 → lw len 0 n = 16384 → ∀ s, s < n → len s ≤ 1 := by
  intro n
  induction n with
  | zero => intro _ h; exact absurd h (show ¬ (0 = 1) by decide)
  | succ n ih =>
    intro hl h1 h2 s hs
    have h1' : cg len 1 n + (if 1 ≤ len n then 1 else 0) = 1 := h1
    have h2' : lw len 0 n + (if 0 < len n then 2 ^ (15 - len n) else 0) = 16384 := h2
    by_cases c : 1 ≤ len n
    · rw [if_pos c] at h1'
      rw [if_pos (by omega)] at h2'
      have hz : ∀ s, s < n → len s < 1 := by
        intro t ht
        rcases Nat.lt_or_ge (len t) 1 with q | q
        · exact q
        · have := cg_pos ht q; omega
      rw [lw_zero (k := 0) (fun t ht => by have := hz t ht; omega)] at h2'
      have hln : len n ≤ 1 := by
        have hb := hl n (by omega)
        rcases (show len n = 1 ∨ 2 ≤ len n by omega) with q | q
        · omega
        · have hp : 2 ^ (15 - len n) ≤ 2 ^ 13 := Nat.pow_le_pow_right (by decide) (by omega)
          omega
      rcases (show s < n ∨ s = n by omega) with q | q
      · have := hz s q; omega
      · rw [q]; exact hln
    · rw [if_neg c] at h1'
      rw [if_neg (by omega)] at h2'
      rcases (show s < n ∨ s = n by omega) with q | q
      · exact ih (fun t ht => hl t (by omega)) (by omega) (by omega) s q
      · rw [q]; omega
theorem begins_iff {len : Nat → Nat} {n l k code : Nat} (hl : ∀ s, s < n → len s ≤ 15) (hv : okc len n) (ht : top len n l) (h0 : 1 ≤ k) (hk : k ≤ l) (h1 : code < 2 ^ k) (h2 : fs len n k ≤ code) : (code - fs len n k) * 2 ^ (15 - k) < lw len k n ↔ k < l := by
  have hl15 := ht.1
  have hkr := kraft len n hl k (by omega)
  rcases hv with q | ⟨q1, q2⟩ | q
  · have e : 2 ^ k * 2 ^ (15 - k) = 32768 := by rw [← Nat.pow_add, show k + (15 - k) = 15 by omega]
    have hlt : (code - fs len n k) * 2 ^ (15 - k) < lw len k n := by
      have hp : 0 < 2 ^ (15 - k) := Nat.pow_pos (by decide)
      have e3 : (code - fs len n k) * 2 ^ (15 - k) + fs len n k * 2 ^ (15 - k) = code * 2 ^ (15 - k) := by rw [← Nat.add_mul]; congr 1; omega
      have e4 : code * 2 ^ (15 - k) < 2 ^ k * 2 ^ (15 - k) := Nat.mul_lt_mul_of_pos_right h1 hp
      omega
    refine ⟨fun _ => ?_, fun _ => hlt⟩
    obtain ⟨s, h3, h4⟩ := lw_pos (Nat.lt_of_le_of_lt (Nat.zero_le _) hlt)
    have := ht.2.1 s h3
    omega
  · have h3 := single hl q1 q2
    have hl1 : l ≤ 1 := by
      rcases ht.2.2 with q | ⟨s, h4, h5⟩
      · omega
      · have := h3 s h4; omega
    rw [lw_zero (k := k) (fun s hs => by have := h3 s hs; omega)]
    omega
  · exfalso
    rcases ht.2.2 with q5 | ⟨s, h4, h5⟩
    · omega
    · have h6 : 1 ≤ len s := by omega
      have := cg_pos (len := len) (k := 1) h4 h6
      omega
