/-- how many of the first n numbers have the property -/
def ct (P : Nat → Bool) : Nat → Nat
  | 0 => 0
  | n + 1 => ct P n + (if P n = true then 1 else 0)
theorem ct_s (P : Nat → Bool) (n : Nat) : ct P (n + 1) = ct P n + (if P n = true then 1 else 0) := rfl
theorem ct_le (P : Nat → Bool) : ∀ n, ct P n ≤ n := by
  intro n
  induction n with
  | zero => exact Nat.le_refl _
  | succ n ih => rw [ct_s]; split <;> omega
theorem ct_ext {P Q : Nat → Bool} : ∀ n, (∀ x, x < n → P x = Q x) → ct P n = ct Q n := by
  intro n
  induction n with
  | zero => intro _; rfl
  | succ n ih =>
    intro h
    rw [ct_s, ct_s, ih (fun x hx => h x (by omega)), h n (by omega)]
theorem ct_mono {P Q : Nat → Bool} : ∀ n, (∀ x, x < n → P x = true → Q x = true) → ct P n ≤ ct Q n := by
  intro n
  induction n with
  | zero => intro _; exact Nat.le_refl _
  | succ n ih =>
    intro h
    have := ih (fun x hx => h x (by omega))
    rw [ct_s, ct_s]
    by_cases c : P n = true
    · rw [if_pos c, if_pos (h n (by omega) c)]; omega
    · rw [if_neg c]; split <;> omega
theorem ct_strict {P Q : Nat → Bool} : ∀ n, (∀ x, x < n → P x = true → Q x = true) → ∀ x, x < n → Q x = true → P x = false → ct P n < ct Q n := by
  intro n
  induction n with
  | zero => intro _ x hx; omega
  | succ n ih =>
    intro h x hx hq hp
    rw [ct_s, ct_s]
    by_cases e : x = n
    · subst e
      have := ct_mono x (fun y hy => h y (by omega))
      rw [if_neg (by rw [hp]; decide), if_pos hq]
      omega
    · have := ih (fun y hy => h y (by omega)) x (by omega) hq hp
      by_cases c : P n = true
      · rw [if_pos c, if_pos (h n (by omega) c)]; omega
      · rw [if_neg c]; split <;> omega
theorem ct_true : ∀ n, ct (fun _ => true) n = n := by
  intro n
  induction n with
  | zero => rfl
  | succ n ih => rw [ct_s, ih, if_pos rfl]
theorem ct_lt {P : Nat → Bool} {n x : Nat} (hx : x < n) (hp : P x = false) : ct P n < n := by
  have := ct_strict (P := P) (Q := fun _ => true) n (fun _ _ _ => rfl) x hx rfl hp
  rwa [ct_true] at this
theorem ct_add {P Q R : Nat → Bool} : ∀ n, (∀ x, x < n → R x = (P x || Q x)) → (∀ x, x < n → P x = true → Q x = false) → ct R n = ct P n + ct Q n := by
  intro n
  induction n with
  | zero => intro _ _; rfl
  | succ n ih =>
    intro h1 h2
    rw [ct_s, ct_s, ct_s, ih (fun x hx => h1 x (by omega)) (fun x hx => h2 x (by omega)), h1 n (by omega)]
    have := h2 n (by omega)
    cases hp : P n <;> cases hq : Q n <;> simp_all <;> omega
theorem ct_zero {P : Nat → Bool} : ∀ n, (∀ x, x < n → P x = false) → ct P n = 0 := by
  intro n
  induction n with
  | zero => intro _; rfl
  | succ n ih =>
    intro h
    rw [ct_s, ih (fun x hx => h x (by omega)), if_neg (by rw [h n (by omega)]; decide)]
theorem ct_one {P : Nat → Bool} : ∀ n x, x < n → P x = true → (∀ y, y < n → P y = true → y = x) → ct P n = 1 := by
  intro n
  induction n with
  | zero => intro x hx; omega
  | succ n ih =>
    intro x hx hp h
    rw [ct_s]
    by_cases e : x = n
    · subst e
      rw [if_pos hp, ct_zero x (fun y hy => by
        cases q : P y with
        | false => rfl
        | true => have := h y (by omega) q; omega)]
    · rw [ih x (by omega) hp (fun y hy => h y (by omega)), if_neg (fun q => e (h n (by omega) q).symm)]
theorem ct_le1 {P : Nat → Bool} {n : Nat} (h : ∀ x y, x < n → y < n → P x = true → P y = true → x = y) : ct P n ≤ 1 := by
  by_cases c : ∃ x, x < n ∧ P x = true
  · obtain ⟨x, hx, hp⟩ := c
    rw [ct_one n x hx hp (fun y hy q => h y x hy hx q hp)]
    exact Nat.le_refl _
  · rw [ct_zero n (fun x hx => by
      cases q : P x with
      | false => rfl
      | true => exact absurd ⟨x, hx, q⟩ c)]
    omega
/-- an injection of the first n numbers into themselves leaves none out -/
theorem inj_surj {h : Nat → Nat} {n : Nat} (h1 : ∀ x, x < n → h x < n) (h2 : ∀ x y, x < n → y < n → h x = h y → x = y) : ∀ i, i < n → ∃ x, x < n ∧ h x = i := by
  intro i hi
  apply Classical.byContradiction
  intro hno
  have step : ∀ j, ct (fun x => decide (h x < j + 1)) n = ct (fun x => decide (h x < j)) n + ct (fun x => decide (h x = j)) n := by
    intro j
    refine ct_add n (fun x _ => ?_) (fun x _ hx => ?_)
    · have : (h x < j + 1) ↔ (h x < j ∨ h x = j) := by omega
      rw [Bool.eq_iff_iff]
      simp [this]
    · have := of_decide_eq_true hx
      exact decide_eq_false (by omega)
  have le1 : ∀ j, ct (fun x => decide (h x = j)) n ≤ 1 := fun j => ct_le1 (fun x y hx hy q1 q2 => h2 x y hx hy ((of_decide_eq_true q1).trans (of_decide_eq_true q2).symm))
  have z0 : ct (fun x => decide (h x = i)) n = 0 := ct_zero n (fun x hx => decide_eq_false (fun q => hno ⟨x, hx, q⟩))
  have low : ∀ j, ct (fun x => decide (h x < j)) n ≤ j := by
    intro j
    induction j with
    | zero => rw [ct_zero n (fun x hx => decide_eq_false (by omega))]; exact Nat.le_refl _
    | succ j ih => rw [step j]; have := le1 j; omega
  have hi2 : ∀ d, ct (fun x => decide (h x < i + 1 + d)) n ≤ i + d := by
    intro d
    induction d with
    | zero => rw [Nat.add_zero, step i, z0]; have := low i; omega
    | succ d ih => rw [← Nat.add_assoc, step (i + 1 + d)]; have := le1 (i + 1 + d); omega
  have e := hi2 (n - (i + 1))
  rw [show i + 1 + (n - (i + 1)) = n by omega] at e
  rw [ct_ext (Q := fun _ => true) n (fun x hx => decide_eq_true (h1 x hx)), ct_true] at e
  omega
/-- the rank of x by c -/
def rk (c : Nat → Nat) (n x : Nat) : Nat := ct (fun y => decide (c y < c x)) n
theorem rk_lt {c : Nat → Nat} {n x : Nat} (hx : x < n) : rk c n x < n := ct_lt hx (decide_eq_false (Nat.lt_irrefl _))
theorem rk_iff {c : Nat → Nat} {n x y : Nat} (hx : x < n) (hy : y < n) : rk c n x < rk c n y ↔ c x < c y := by
  have key : ∀ {x y}, x < n → y < n → c x < c y → rk c n x < rk c n y := by
    intro x y hx hy h
    refine ct_strict n (fun z hz q => ?_) x hx (decide_eq_true h) (decide_eq_false (Nat.lt_irrefl _))
    exact decide_eq_true (Nat.lt_trans (of_decide_eq_true q) h)
  constructor
  · intro h
    rcases Nat.lt_trichotomy (c x) (c y) with q | q | q
    · exact q
    · unfold rk at h
      rw [q] at h
      omega
    · have := key hy hx q
      omega
  · exact key hx hy
theorem rk_inj {c : Nat → Nat} {n x y : Nat} (hc : ∀ x y, x < n → y < n → c x = c y → x = y) (hx : x < n) (hy : y < n) (h : rk c n x = rk c n y) : x = y := by
  have a := rk_iff (c := c) hx hy
  have b := rk_iff (c := c) hy hx
  exact hc x y hx hy (by omega)
theorem rk_sur {c : Nat → Nat} {n i : Nat} (hc : ∀ x y, x < n → y < n → c x = c y → x = y) (hi : i < n) : ∃ x, x < n ∧ rk c n x = i :=
  inj_surj (fun x hx => rk_lt hx) (fun x y hx hy h => rk_inj hc hx hy h) i hi
/-- sorted by key, then by c -/
def kc (key : Nat → Nat) (B : Nat) (c : Nat → Nat) (x : Nat) : Nat := key x * B + c x
theorem kc_lt {key c : Nat → Nat} {B x y : Nat} (hx : c x < B) (hy : c y < B) : kc key B c x < kc key B c y ↔ (key x < key y ∨ (key x = key y ∧ c x < c y)) := by
  unfold kc
  rcases Nat.lt_trichotomy (key x) (key y) with q | q | q
  · have : (key x + 1) * B ≤ key y * B := Nat.mul_le_mul_right B q
    rw [Nat.add_mul] at this
    constructor
    · intro _; exact Or.inl q
    · intro _; omega
  · rw [q]
    constructor
    · intro h; exact Or.inr ⟨rfl, by omega⟩
    · rintro (h | h)
      · omega
      · omega
  · have : (key y + 1) * B ≤ key x * B := Nat.mul_le_mul_right B q
    rw [Nat.add_mul] at this
    constructor
    · intro h; omega
    · rintro (h | h)
      · omega
      · omega
theorem kc_inj {key c : Nat → Nat} {B n : Nat} (hB : ∀ x, x < n → c x < B) (hc : ∀ x y, x < n → y < n → c x = c y → x = y) : ∀ x y, x < n → y < n → kc key B c x = kc key B c y → x = y := by
  intro x y hx hy h
  have a := kc_lt (key := key) (hB x hx) (hB y hy)
  have b := kc_lt (key := key) (hB y hy) (hB x hx)
  refine hc x y hx hy ?_
  have e : key x = key y := by
    rcases Nat.lt_trichotomy (key x) (key y) with q | q | q
    · have := a.mpr (Or.inl q); omega
    · exact q
    · have := b.mpr (Or.inl q); omega
  rcases Nat.lt_trichotomy (c x) (c y) with q | q | q
  · have := a.mpr (Or.inr ⟨e, q⟩); omega
  · exact q
  · have := b.mpr (Or.inr ⟨e.symm, q⟩); omega
