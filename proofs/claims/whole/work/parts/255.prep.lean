abbrev s3 (g : Nat → Int32) (z x : Nat) : Prop := g z = g x ∧ g (z + 1) = g (x + 1) ∧ g (z + 2) = g (x + 2)
/-- the nearest place below j with the same three bytes as p -/
def pv (g : Nat → Int32) (p : Nat) : Nat → Int32
  | 0 => -1
  | j + 1 => if s3 g j p then nI j else pv g p j
theorem pv_some {g : Nat → Int32} {p y : Nat} : ∀ {j : Nat}, y < j → s3 g y p → (∀ z, y < z → z < j → ¬ s3 g z p) → pv g p j = nI y := by
  intro j
  induction j with
  | zero => intro h; omega
  | succ j ih =>
    intro h1 h2 h3
    show (if s3 g j p then nI j else pv g p j) = _
    by_cases c : y = j
    · subst c; rw [if_pos h2]
    · rw [if_neg (h3 j (by omega) (by omega))]
      exact ih (by omega) h2 (fun z a b => h3 z a (by omega))
theorem pv_none {g : Nat → Int32} {p : Nat} : ∀ {j : Nat}, (∀ z, z < j → ¬ s3 g z p) → pv g p j = -1 := by
  intro j
  induction j with
  | zero => intro _; rfl
  | succ j ih =>
    intro h
    show (if s3 g j p then nI j else pv g p j) = _
    rw [if_neg (h j (by omega))]
    exact ih (fun z a => h z (by omega))
theorem pv_same {g : Nat → Int32} {p q : Nat} (h : s3 g q p) : ∀ j, pv g p j = pv g q j := by
  intro j
  induction j with
  | zero => rfl
  | succ j ih =>
    show (if s3 g j p then nI j else pv g p j) = (if s3 g j q then nI j else pv g q j)
    have : s3 g j p ↔ s3 g j q := by
      unfold s3 at h ⊢
      rw [h.1, h.2.1, h.2.2]
    rw [ih]
    by_cases c : s3 g j p
    · rw [if_pos c, if_pos (this.mp c)]
    · rw [if_neg c, if_neg (fun z => c (this.mpr z))]
def c1 (g : Nat → Int32) : Nat → Nat := kc (kb g 2) 8192 id
def c2 (g : Nat → Int32) : Nat → Nat := kc (kb g 1) 2097152 (c1 g)
def c3 (g : Nat → Int32) : Nat → Nat := kc (kb g 0) 536870912 (c2 g)
theorem c3_eq (g : Nat → Int32) (x : Nat) : c3 g x = kb g 0 x * 536870912 + (kb g 1 x * 2097152 + (kb g 2 x * 8192 + x)) := rfl
theorem s3_iff {f g : Nat → Int32} {m z x : Nat} (h : rb f g m) (hz : z + 2 < m) (hx : x + 2 < m) : s3 g z x ↔ (kb g 0 z = kb g 0 x ∧ kb g 1 z = kb g 1 x ∧ kb g 2 z = kb g 2 x) := by
  have one : ∀ off, z + off < m → x + off < m → (g (z + off) = g (x + off) ↔ kb g off z = kb g off x) := by
    intro off a b
    obtain ⟨p1, p2, _⟩ := kb_in h a
    obtain ⟨q1, q2, _⟩ := kb_in h b
    rw [p2, q2, nI_eq (by omega) (by omega)]
  unfold s3
  rw [show g z = g (z + 0) from rfl, show g x = g (x + 0) from rfl, one 0 (by omega) (by omega), one 1 (by omega) (by omega), one 2 hz hx]
theorem sb_inj : ∀ a, a < 256 → ∀ b, b < 256 → (sb_b a = sb_b b ↔ a = b) := by
  intro a ha b hb
  constructor
  · intro h
    have := congrArg (fun x : Int32 => x &&& 255) h
    simp only [lo8_and ha, lo8_and hb] at this
    exact (nI_eq (by omega) (by omega)).mp this
  · intro h; rw [h]
theorem same3_ok {f g : Nat → Int32} {m z x : Nat} (h : rb f g m) (hm : m ≤ 9000) (hz : z + 2 < m) (hx : x + 2 < m) : g_Matcher_sameThree_0 9000 f (nI z) (nI x) = some (if s3 g z x then 1 else 0) := by
  have one : ∀ off, z + off < m → x + off < m → (f (z + off) = f (x + off) ↔ kb g off z = kb g off x) := by
    intro off a b
    obtain ⟨p1, _, p3, _⟩ := kb_in h a
    obtain ⟨q1, _, q3, _⟩ := kb_in h b
    rw [p3, q3, sb_inj _ p1 _ q1]
  have o0 : f z = f x ↔ kb g 0 z = kb g 0 x := one 0 (by omega) (by omega)
  have o1 := one 1 (by omega) (by omega)
  have o2 := one 2 hz hx
  have hs := s3_iff h hz hx
  rw [g_Matcher_sameThree_0, z_1, z_2, nI_add, nI_add, nI_add, nI_add, if_neg (nI_in (by omega) (by omega)), if_neg (nI_in (by omega) (by omega)), if_neg (nI_in (by omega) (by omega)), if_neg (nI_in (by omega) (by omega)), if_neg (nI_in (by omega) (by omega)), if_neg (nI_in (by omega) (by omega)), nI_clamp (by omega), nI_clamp (by omega), nI_clamp (by omega), nI_clamp (by omega), nI_clamp (by omega), nI_clamp (by omega)]
  by_cases a : kb g 0 z = kb g 0 x
  · rw [if_pos (o0.mpr a)]
    by_cases b : kb g 1 z = kb g 1 x
    · rw [if_pos (o1.mpr b)]
      by_cases c : kb g 2 z = kb g 2 x
      · rw [if_pos (o2.mpr c), if_pos (hs.mpr ⟨a, b, c⟩)]
      · rw [if_neg (fun w => c (o2.mp w)), if_neg (fun w => c (hs.mp w).2.2)]
    · rw [if_neg (fun w => b (o1.mp w)), if_neg (fun w => b (hs.mp w).2.1)]
  · rw [if_neg (fun w => a (o0.mp w)), if_neg (fun w => a (hs.mp w).1)]
theorem pr1 {f : Nat → Int32} {n N : Nat} {X : Int32} {st so : Nat → Int32} (hX : ∀ i, i ≤ 8192 → (X ≤ nI i ↔ n ≤ i)) (hn2 : n ≤ 8192) : ∀ (d i : Nat) (ne : Nat → Int32) (M : Nat), i + d = n → d < M → (∀ x, x < i → ne x = nI x) →
    ∃ ne' M', g_Matcher_prepare_L1 N 257 9000 f 8192 8192 M X (nI i) st so ne = g_Matcher_prepare_L1 N 257 9000 f 8192 8192 (M' + 1) X (nI n) st so ne' ∧ (∀ x, x < n → ne' x = nI x) := by
  intro d
  induction d with
  | zero =>
    intro i ne M hi hM h
    obtain ⟨k, rfl⟩ := succ_of hM
    have e : i = n := by omega
    subst e
    exact ⟨ne, k, rfl, h⟩
  | succ d ih =>
    intro i ne M hi hM h
    obtain ⟨k, rfl⟩ := succ_of hM
    have q := hX i (by omega)
    rw [g_Matcher_prepare_L1, if_neg (fun z => by have := q.mp z; omega), if_neg (nI_in (by omega) (by omega)), nI_clamp (by omega), nI_1]
    refine ih (i + 1) _ k (by omega) (by omega) (fun x hx => ?_)
    by_cases c : x = i
    · subst c; rw [pk_us]
    · rw [pk_un c]; exact h x (by omega)
theorem rk_id {n x : Nat} (hx : x ≤ n) : rk id n x = x := by
  unfold rk
  induction n with
  | zero => rw [show x = 0 by omega]; rfl
  | succ n ih =>
    rw [ct_s]
    by_cases c : x = n + 1
    · subst c
      have : ∀ k, k ≤ n + 1 → ct (fun y => decide (id y < id (n + 1))) k = k := by
        intro k
        induction k with
        | zero => intro _; rfl
        | succ k ih2 =>
          intro hk
          rw [ct_s, ih2 (by omega), if_pos (decide_eq_true (show id k < id (n + 1) from (by show k < n + 1; omega)))]
      rw [this n (by omega), if_pos (decide_eq_true (show id n < id (n + 1) from Nat.lt_succ_self n))]
    · rw [ih (by omega), if_neg (fun z => by have := of_decide_eq_true z; simp only [id] at this; omega)]; rfl
theorem c_ok {f g : Nat → Int32} {m n : Nat} (h : rb f g m) (hn : n = 0 ∨ n + 2 ≤ m) (hn2 : n ≤ 8192) : (∀ x, x < n → id x < 8192) ∧ (∀ x, x < n → c1 g x < 2097152) ∧ (∀ x, x < n → c2 g x < 536870912) := by
  refine ⟨fun x hx => by show x < 8192; omega, fun x hx => ?_, fun x hx => ?_⟩
  · have a := (kb_in h (show x + 2 < m by omega)).1
    show kb g 2 x * 8192 + x < 2097152
    omega
  · have a := (kb_in h (show x + 2 < m by omega)).1
    have b := (kb_in h (show x + 1 < m by omega)).1
    show kb g 1 x * 2097152 + (kb g 2 x * 8192 + x) < 536870912
    omega
/-- the last loop: each place gets the nearest one before it -/
theorem pr2 {f g so : Nat → Int32} {m n : Nat} {X : Int32} {st : Nat → Int32} (h : rb f g m) (hm : m ≤ 9000) (hn : n = 0 ∨ n + 2 ≤ m) (hX : ∀ i, i ≤ 8192 → (X ≤ nI i ↔ n ≤ i)) (hn2 : n ≤ 8192) (hso : ∀ x, x < n → so (rk (c3 g) n x) = nI x) (hinj : ∀ x y, x < n → y < n → c3 g x = c3 g y → x = y) : ∀ (d i : Nat) (ne : Nat → Int32) (M : Nat), i + d = n → d < M → (∀ x, x < n → rk (c3 g) n x < i → ne x = pv g x x) →
    ∃ ne', g_Matcher_prepare_L2 9000 f 8192 8192 M X (nI i) st so ne = some (st, so, ne') ∧ (∀ x, x < n → ne' x = pv g x x) := by
  have kbl : ∀ x, x < n → kb g 0 x < 256 ∧ kb g 1 x < 256 ∧ kb g 2 x < 256 := fun x hx => ⟨(kb_in h (show x + 0 < m by omega)).1, (kb_in h (show x + 1 < m by omega)).1, (kb_in h (show x + 2 < m by omega)).1⟩
  intro d
  induction d with
  | zero =>
    intro i ne M hi hM hq
    obtain ⟨k, rfl⟩ := succ_of hM
    have e : i = n := by omega
    subst e
    exact ⟨ne, by rw [g_Matcher_prepare_L2, if_pos ((hX i hn2).mpr (Nat.le_refl _))], fun x hx => hq x hx (rk_lt hx)⟩
  | succ d ih =>
    intro i ne M hi hM hq
    obtain ⟨k, rfl⟩ := succ_of hM
    have q := hX i (by omega)
    obtain ⟨x, hx, ex⟩ := rk_sur hinj (show i < n by omega)
    have es : so i = nI x := by rw [← ex]; exact hso x hx
    have fin : ∀ w : Int32, w = pv g x x → ∃ ne', g_Matcher_prepare_J3 8192 (g_Matcher_prepare_L2 9000 f 8192 8192 k) X (nI i) w (nI x) st so ne = some (st, so, ne') ∧ (∀ x, x < n → ne' x = pv g x x) := by
      intro w hw
      rw [g_Matcher_prepare_J3, if_neg (nI_in (by omega) (by omega)), nI_clamp (by omega), nI_1]
      refine ih (i + 1) _ k (by omega) (by omega) (fun y hy hry => ?_)
      by_cases z : y = x
      · subst z; rw [pk_us]; exact hw
      · have z2 : rk (c3 g) n y < i := by
          rcases Nat.lt_or_ge (rk (c3 g) n y) i with w | w
          · exact w
          · exact absurd (rk_inj hinj hy hx (by omega)) z
        rw [pk_un z]
        exact hq y hy z2
    have low : ∀ z, z < n → s3 g z x → z < x → c3 g z < c3 g x := by
      intro z hz hs hzx
      obtain ⟨a1, a2, a3⟩ := (s3_iff h (by omega) (by omega)).mp hs
      rw [c3_eq, c3_eq, a1, a2, a3]
      omega
    have J1f : (∀ z, z < x → ¬ s3 g z x) → ∃ ne', g_Matcher_prepare_J1 8192 8192 (g_Matcher_prepare_L2 9000 f 8192 8192 k) X (nI i) st so ne = some (st, so, ne') ∧ (∀ x, x < n → ne' x = pv g x x) := by
      intro hno
      rw [g_Matcher_prepare_J1, g_Matcher_prepare_J2, if_neg (nI_in (by omega) (by omega)), nI_clamp (by omega), if_pos rfl, es]
      exact fin (-1) (pv_none hno).symm
    rw [g_Matcher_prepare_L2, if_neg (fun z => by have := q.mp z; omega)]
    by_cases c : i = 0
    · rw [if_pos (by rw [c]; decide)]
      refine J1f (fun z hz hs => ?_)
      have a := low z (by omega) hs hz
      have b := (rk_iff (c := c3 g) (show z < n by omega) hx).mpr a
      omega
    · obtain ⟨j, rfl⟩ : ∃ j, i = j + 1 := ⟨i - 1, by omega⟩
      obtain ⟨y, hy, ey⟩ := rk_sur hinj (show j < n by omega)
      have es2 : so j = nI y := by rw [← ey]; exact hso y hy
      have hyx : c3 g y < c3 g x := (rk_iff (c := c3 g) hy hx).mp (by omega)
      rw [if_neg (nI_nle (by omega) (by omega)), nI_pred, if_neg (nI_in (by omega) (by omega)), if_neg (nI_in (by omega) (by omega)), nI_clamp (by omega), nI_clamp (by omega), es, es2, same3_ok h hm (by omega) (by omega), Option.bind_some]
      obtain ⟨kx0, kx1, kx2⟩ := kbl x hx
      obtain ⟨ky0, ky1, ky2⟩ := kbl y hy
      by_cases c' : s3 g y x
      · rw [if_pos c', if_neg (by decide), g_Matcher_prepare_J2, if_neg (nI_in (by omega) (by omega)), if_neg (by decide), nI_pred, if_neg (nI_in (by omega) (by omega)), nI_clamp (by omega), nI_clamp (by omega), es, es2]
        have hyl : y < x := by
          obtain ⟨a1, a2, a3⟩ := (s3_iff h (by omega) (by omega)).mp c'
          rw [c3_eq, c3_eq, a1, a2, a3] at hyx
          omega
        refine fin (nI y) (pv_some hyl c' (fun z hz1 hz2 hs => ?_)).symm
        have a := low z (by omega) hs hz2
        have b := (rk_iff (c := c3 g) (show z < n by omega) hx).mpr a
        have hs2 : s3 g z y := by
          unfold s3 at hs c' ⊢
          rw [hs.1, hs.2.1, hs.2.2, c'.1, c'.2.1, c'.2.2]
          exact ⟨rfl, rfl, rfl⟩
        obtain ⟨a1, a2, a3⟩ := (s3_iff h (by omega) (by omega)).mp hs2
        have d1 : c3 g y < c3 g z := by
          rw [c3_eq, c3_eq, a1, a2, a3]
          omega
        have d2 := (rk_iff (c := c3 g) hy (show z < n by omega)).mpr d1
        omega
      · rw [if_neg c', if_pos rfl]
        refine J1f (fun z hz hs => c' ?_)
        have a := low z (by omega) hs hz
        have b := (rk_iff (c := c3 g) (show z < n by omega) hx).mpr a
        have hzy : c3 g z ≤ c3 g y := by
          rcases Nat.lt_or_ge (c3 g y) (c3 g z) with w | w
          · have := (rk_iff (c := c3 g) hy (show z < n by omega)).mpr w
            omega
          · exact w
        obtain ⟨a1, a2, a3⟩ := (s3_iff h (by omega) (by omega)).mp hs
        obtain ⟨kz0, kz1, kz2⟩ := kbl z (by omega)
        rw [c3_eq, c3_eq, a1, a2, a3] at hzy
        rw [c3_eq, c3_eq] at hyx
        have e0 : kb g 0 y = kb g 0 x := by omega
        have e1 : kb g 1 y = kb g 1 x := by omega
        have e2 : kb g 2 y = kb g 2 x := by omega
        exact (s3_iff h (by omega) (by omega)).mpr ⟨e0, e1, e2⟩
theorem prep_ok {f g st so ne : Nat → Int32} {m N : Nat} (h : rb f g m) (hm : m ≤ 8192) (hN : 100000 ≤ N) : ∃ st' so' ne', g_Matcher_prepare_0 N (nI m) 257 9000 f 8192 8192 st so ne = some (st', so', ne') ∧ (∀ x, x + 2 < m → ne' x = pv g x x) := by
  obtain ⟨n, X, eX, hn, hall, hn2, hX⟩ : ∃ (n : Nat) (X : Int32), (if (8192 : Int32) < nI m then (8192 : Int32) else nI m) - 2 = X ∧ (n = 0 ∨ n + 2 ≤ m) ∧ (∀ x, x + 2 < m → x < n) ∧ n ≤ 8192 ∧ (∀ i, i ≤ 8192 → (X ≤ nI i ↔ n ≤ i)) := by
    rw [if_neg (show ¬ (8192 : Int32) < nI m from nI_nlt (a := 8192) (by omega) (by omega)), z_2]
    by_cases c : 2 ≤ m
    · exact ⟨m - 2, nI (m - 2), pk_sub c, by omega, fun x hx => by omega, by omega, fun i hi => nI_leI (by omega) (by omega)⟩
    · refine ⟨0, nI m - nI 2, rfl, Or.inl rfl, fun x hx => by omega, by omega, fun i hi => ⟨fun _ => Nat.zero_le _, fun _ => ?_⟩⟩
      have a := pk_sub_toInt (a := m) (b := 2) (by omega) (by omega)
      rw [Int32.le_iff_toInt_le, a, nI_toInt (by omega)]
      omega
  rw [g_Matcher_prepare_0, eX]
  obtain ⟨k1, k2, k3⟩ := c_ok (g := g) h hn hn2
  have i0 : ∀ x y, x < n → y < n → id x = id y → x = y := fun x y _ _ e => e
  have i1 := kc_inj (key := kb g 2) k1 i0
  have i2 := kc_inj (key := kb g 1) k2 i1
  have i3 := kc_inj (key := kb g 0) k3 i2
  obtain ⟨n0, M', e0, z0⟩ := pr1 (f := f) (N := N) (st := st) (so := so) hX hn2 n 0 ne N (by omega) (by omega) (fun x hx => absurd hx (Nat.not_lt_zero x))
  have e0' : g_Matcher_prepare_L1 N 257 9000 f 8192 8192 N X 0 st so ne = g_Matcher_prepare_L1 N 257 9000 f 8192 8192 (M' + 1) X (nI n) st so n0 := e0
  obtain ⟨t1, so1, e1, z1⟩ := pass (F := n0) (st := st) (T := so) (off := 2) (B := 8192) (c := id) h (by omega) hn hX hn2 hN i0 k1 (fun x hx => by rw [rk_id (by omega)]; exact z0 x hx)
  obtain ⟨t2, ne2, e2, z2⟩ := pass (F := so1) (st := t1) (T := n0) (off := 1) (B := 2097152) (c := c1 g) h (by omega) (by omega) hX hn2 hN i1 k2 z1
  obtain ⟨t3, so3, e3, z3⟩ := pass (F := ne2) (st := t2) (T := so1) (off := 0) (B := 536870912) (c := c2 g) h (by omega) (by omega) hX hn2 hN i2 k3 z2
  obtain ⟨ne4, e4, z4⟩ := pr2 (st := t3) h (by omega) hn hX hn2 z3 i3 n 0 ne2 N (by omega) (by omega) (fun x _ hr => absurd hr (Nat.not_lt_zero _))
  refine ⟨t3, so3, ne4, ?_, fun x hx => z4 x (hall x hx)⟩
  have e1' : g_Matcher_sort_0 N 257 9000 f 8192 n0 8192 X 2 st so = some (t1, so1) := e1
  have e2' : g_Matcher_sort_0 N 257 9000 f 8192 so1 8192 X 1 t1 n0 = some (t2, ne2) := e2
  have e3' : g_Matcher_sort_0 N 257 9000 f 8192 ne2 8192 X 0 t2 so1 = some (t3, so3) := e3
  rw [e0', g_Matcher_prepare_L1, if_pos ((hX n hn2).mpr (Nat.le_refl _)), e1', Option.bind_some]
  dsimp only
  rw [e2', Option.bind_some]
  dsimp only
  rw [e3', Option.bind_some]
  exact e4
