def inc (w : Nat → Nat) (s t : Nat) : Nat := ct (fun i => decide (w i = t)) s
theorem inc_s (w : Nat → Nat) (s t : Nat) : inc w (s + 1) t = inc w s t + (if w s = t then 1 else 0) := by
  unfold inc
  rw [ct_s]
  simp only [decide_eq_true_eq]
theorem inc_le {oc or_ : Nat → Int32} {w : Nat → Nat} {m n s t : Nat} (ho : od oc or_ w m n) (hs : s ≤ m) : inc w s t ≤ 1 :=
  ct_le1 (fun x y hx hy h1 h2 => ho.2.2 x y (by omega) (by omega) ((of_decide_eq_true h1).trans (of_decide_eq_true h2).symm))
theorem inc_z {oc or_ : Nat → Int32} {w : Nat → Nat} {m n s t : Nat} (ho : od oc or_ w m n) (hs : s ≤ m) (ht : n ≤ t) : inc w s t = 0 :=
  ct_zero s (fun x hx => decide_eq_false (fun z => by have := (ho.2.1 x (by omega)).2.2; omega))
theorem syC_s (is : Nat → Int32) (l k : Nat) : syC is l (k + 1) = syC is l k + (if ¬ is (600 * l + k) = 0 then 1 else 0) := by
  unfold syC
  rw [ct_s]
  simp only [decide_eq_true_eq]
theorem syC_mono {is : Nat → Int32} {l : Nat} {a : Nat} : ∀ d, syC is l a ≤ syC is l (a + d) ∧ syC is l (a + d) ≤ syC is l a + d := by
  intro d
  induction d with
  | zero => exact ⟨Nat.le_refl _, Nat.le_refl _⟩
  | succ d ih =>
    rw [← Nat.add_assoc, syC_s]
    split <;> omega
theorem tk2 {oc or_ pr is : Nat → Int32} {w len : Nat → Nat} {m n l T : Nat} {K : Int32 → Int32 → (Nat → Int32) → Option (Nat → Int32)} (hm : m ≤ 286) (hn : n ≤ 286) (hl : l < 15) (ho : od oc or_ w m n) (hb : ∀ j, j < sz m l → (bt (pr j) l = true ↔ is (600 * l + j) = 0)) (hsy : syC is l (sz m l) = m) (hT : T ≤ sz m l) : ∀ (d j : Nat) (fl : Nat → Int32) (M : Nat), j + d = T → d < M → (∀ t, t < 288 → fl t = nI (len t + inc w (syC is l j) t)) →
    ∃ fl', (∀ t, t < 288 → fl' t = nI (len t + inc w (syC is l T) t)) ∧ g_LengthMaker_takeItems_L2 572 pr 286 oc 288 K M (nI T) (nI l) (nI (syC is l j)) (nI j) fl = K (nI (2 * (T - syC is l T))) (nI l - 1) fl' := by
  have hsl := sz_le m l
  intro d
  induction d with
  | zero =>
    intro j fl M hj hM h
    obtain ⟨k, rfl⟩ := succ_of hM
    have e : j = T := by omega
    subst e
    have hle : syC is l j ≤ j := ct_le _ _
    refine ⟨fl, h, ?_⟩
    rw [g_LengthMaker_takeItems_L2, if_pos (nI_le (Nat.le_refl _) (by omega)), pk_sub hle, z_2, pk_mul, m1s]
  | succ d ih =>
    intro j fl M hj hM h
    obtain ⟨k, rfl⟩ := succ_of hM
    have hbj := hb j (by omega)
    have hg := bt_get (pr j) (show l < 32 by omega)
    have hss := syC_s is l j
    have hmo := (syC_mono (is := is) (l := l) (a := j + 1) (sz m l - (j + 1))).1
    rw [show j + 1 + (sz m l - (j + 1)) = sz m l by omega, hsy] at hmo
    rw [g_LengthMaker_takeItems_L2, if_neg (nI_ge (by omega) (by omega)), if_neg (nI_in (by omega) (by omega)), nI_clamp (n := j) (by omega)]
    by_cases c : is (600 * l + j) = 0
    · rw [if_neg (fun z => by have := hg.mp z; rw [hbj.mpr c] at this; exact absurd this (by decide)), nI_1]
      rw [if_neg (fun z => z c), Nat.add_zero (syC is l j)] at hss
      rw [← hss]
      exact ih (j + 1) fl k (by omega) (by omega) (fun t ht => by rw [hss]; exact h t ht)
    · have hbf : bt (pr j) l = false := by
        cases q : bt (pr j) l with
        | false => rfl
        | true => exact absurd (hbj.mp q) c
      rw [if_pos c] at hss
      have hs : syC is l j < m := by omega
      obtain ⟨o1, o2, o3⟩ := ho.2.1 _ hs
      rw [if_pos (hg.mpr hbf), if_neg (nI_in (by omega) (by omega)), nI_clamp (n := syC is l j) (by omega), o1, if_neg (nI_in (by omega) (by omega)), nI_clamp (n := w (syC is l j)) (by omega), nI_1, nI_1, ← hss]
      refine ih (j + 1) _ k (by omega) (by omega) (fun t ht => ?_)
      rw [hss, inc_s]
      by_cases z : t = w (syC is l j)
      · subst z
        rw [pk_us, h _ ht, nI_1, if_pos rfl, Nat.add_assoc]
      · rw [pk_un z, h t ht, if_neg (fun y => z y.symm), Nat.add_zero]
theorem fl4 {or_ to ls br li is : Nat → Int32} {a l T n5 N : Nat} {K : Int32 → Int32 → Int32 → (Nat → Int32) → (Nat → Int32) → (Nat → Int32) → (Nat → Int32) → (Nat → Int32) → (Nat → Int32) → Option ((Nat → Int32) × (Nat → Int32) × (Nat → Int32) × (Nat → Int32) × (Nat → Int32) × (Nat → Int32))} (hl : l < 15) (hT : T ≤ 572) : ∀ (d j M : Nat), j + d = T → d < M →
    g_Mo_findLengths_L4 N 288 n5 9000 K M (nI a) (nI T) (nI l) (nI (syC is l j)) (nI j) or_ to ls br li is = g_Mo_findLengths_L5 288 n5 K N (nI a) (nI T) (nI l) (nI (syC is l T)) 0 or_ to ls br li is := by
  intro d
  induction d with
  | zero =>
    intro j M hj hM
    obtain ⟨k, rfl⟩ := succ_of hM
    rw [g_Mo_findLengths_L4, if_pos (nI_le (by omega) (by omega)), show j = T by omega]
  | succ d ih =>
    intro j M hj hM
    obtain ⟨k, rfl⟩ := succ_of hM
    have hss := syC_s is l j
    rw [g_Mo_findLengths_L4, if_neg (nI_ge (by omega) (by omega)), z_600, pk_mul, nI_add, if_neg (nI_in (by omega) (by omega)), nI_clamp (n := 600 * l + j) (by omega), nI_1, nI_1]
    by_cases c : is (600 * l + j) = 0
    · rw [if_neg (fun z => z c), Nat.add_zero (syC is l j)] at hss
      rw [if_pos c, ← hss]
      exact ih (j + 1) k (by omega) (by omega)
    · rw [if_pos c] at hss
      rw [if_neg c, ← hss]
      exact ih (j + 1) k (by omega) (by omega)
theorem fl5 {oc or_ ls br li is : Nat → Int32} {w len : Nat → Nat} {m n n' n5 a l T S : Nat} {K : Int32 → Int32 → Int32 → (Nat → Int32) → (Nat → Int32) → (Nat → Int32) → (Nat → Int32) → (Nat → Int32) → (Nat → Int32) → Option ((Nat → Int32) × (Nat → Int32) × (Nat → Int32) × (Nat → Int32) × (Nat → Int32) × (Nat → Int32))} (hm : m ≤ 286) (ho : od oc or_ w m n) (hnn : n ≤ n') (ha : a + n' ≤ n5) (hn5 : n5 ≤ 1000) (hS : S ≤ m) (hST : S ≤ T) (hT : T ≤ 572) : ∀ (d k : Nat) (to : Nat → Int32) (M : Nat), k + d = S → d < M → (∀ t, t < n' → to (a + t) = nI (len t + inc w k t)) →
    ∃ to', (∀ t, t < n' → to' (a + t) = nI (len t + inc w S t)) ∧ (∀ x, x < a ∨ a + n' ≤ x → to' x = to x) ∧ g_Mo_findLengths_L5 288 n5 K M (nI a) (nI T) (nI l) (nI S) (nI k) or_ to ls br li is = K (nI a) (nI (2 * (T - S))) (nI l - 1) or_ to' ls br li is := by
  intro d
  induction d with
  | zero =>
    intro k to M hk hM h
    obtain ⟨q, rfl⟩ := succ_of hM
    have e : k = S := by omega
    subst e
    refine ⟨to, h, fun _ _ => rfl, ?_⟩
    rw [g_Mo_findLengths_L5, if_pos (nI_le (Nat.le_refl _) (by omega)), pk_sub hST, z_2, pk_mul, m1s]
  | succ d ih =>
    intro k to M hk hM h
    obtain ⟨q, rfl⟩ := succ_of hM
    obtain ⟨o1, o2, o3⟩ := ho.2.1 k (by omega)
    rw [g_Mo_findLengths_L5, if_neg (nI_ge (by omega) (by omega)), if_neg (nI_in (by omega) (by omega)), nI_clamp (n := k) (by omega), o2, nI_add, if_neg (nI_in (by omega) (by omega)), nI_clamp (n := a + w k) (by omega), nI_1]
    obtain ⟨to', q1, q2, q3⟩ := ih (k + 1) (upd to (a + w k) (to (a + w k) + 1)) q (by omega) (by omega) (fun t ht => by
      rw [inc_s]
      by_cases z : t = w k
      · subst z
        rw [pk_us, h _ ht, nI_1, if_pos rfl, Nat.add_assoc]
      · rw [pk_un (by omega), h t ht, if_neg (fun y => z y.symm), Nat.add_zero])
    exact ⟨to', q1, fun x hx => by rw [q2 x hx, pk_un (by omega)], q3⟩
theorem take_loop2 {oc or_ pr is ls br li : Nat → Int32} {w : Nat → Nat} {m n n' n5 a N L : Nat} (hm : m ≤ 286) (hn : n ≤ 286) (hL : L ≤ 15) (ho : od oc or_ w m n) (hnn : n ≤ n') (hn' : n' ≤ 288) (ha : a + n' ≤ n5) (hn5 : n5 ≤ 1000) (hN : 100000 ≤ N) (hlm : lm m L pr is) : ∀ (c T : Nat) (len : Nat → Nat) (fl to : Nat → Int32) (M M' : Nat), c < M → c < M' → c ≤ L → (c = 0 ∨ T ≤ sz m (c - 1)) → (∀ t, t < 288 → fl t = nI (len t)) → (∀ t, t < n' → to (a + t) = nI (len t)) → (∀ t, len t + c ≤ L) → (∀ t, n ≤ t → len t = 0) →
    ∃ (len' : Nat → Nat) (fl' to' : Nat → Int32), (∀ t, t < 288 → fl' t = nI (len' t)) ∧ (∀ t, t < n' → to' (a + t) = nI (len' t)) ∧ (∀ t, len' t ≤ L) ∧ (∀ t, n ≤ t → len' t = 0) ∧ (∀ x, x < a ∨ a + n' ≤ x → to' x = to x) ∧
      g_LengthMaker_takeItems_L1 N 572 pr 286 oc 288 M (nI T) (nI c - 1) fl = some fl' ∧
      g_Mo_findLengths_L3 N 288 n5 9000 M' (nI a) (nI T) (nI c - 1) or_ to ls br li is = some (or_, to', ls, br, li, is) := by
  intro c
  induction c with
  | zero =>
    intro T len fl to M M' hM hM' hc hT h1 h2 h3 h4
    obtain ⟨k, rfl⟩ := succ_of hM
    obtain ⟨k', rfl⟩ := succ_of hM'
    refine ⟨len, fl, to, h1, h2, fun t => by have := h3 t; omega, h4, fun _ _ => rfl, ?_, ?_⟩
    · rw [g_LengthMaker_takeItems_L1, if_pos (by decide)]
    · rw [g_Mo_findLengths_L3, if_pos (by decide)]
  | succ c ih =>
    intro T len fl to M M' hM hM' hc hT h1 h2 h3 h4
    obtain ⟨k, rfl⟩ := succ_of hM
    obtain ⟨k', rfl⟩ := succ_of hM'
    have hT' : T ≤ sz m c := by
      rcases hT with z | z
      · omega
      · rwa [show c + 1 - 1 = c by omega] at z
    obtain ⟨b1, b2⟩ := hlm.1 c (by omega)
    have hsl := sz_le m c
    have hse := sz_eq m c
    have hmo := syC_mono (is := is) (l := c) (a := T) (sz m c - T)
    rw [show T + (sz m c - T) = sz m c by omega, b2] at hmo
    have hST : syC is c T ≤ T := ct_le _ _
    obtain ⟨fl1, a1, a2⟩ := tk2 (K := g_LengthMaker_takeItems_L1 N 572 pr 286 oc 288 k) (len := len) hm hn (show c < 15 by omega) ho b1 b2 hT' T 0 fl N (by omega) (by omega) (fun t ht => h1 t ht)
    obtain ⟨to1, d1, d2, d3⟩ := fl5 (ls := ls) (br := br) (li := li) (is := is) (l := c) (len := len) (S := syC is c T) (T := T) (K := g_Mo_findLengths_L3 N 288 n5 9000 k') hm ho hnn ha hn5 hmo.1 hST (by omega) (syC is c T) 0 to N (by omega) (by omega) (fun t ht => h2 t ht)
    have d4 := fl4 (or_ := or_) (to := to) (ls := ls) (br := br) (li := li) (is := is) (a := a) (l := c) (T := T) (n5 := n5) (N := N) (K := g_Mo_findLengths_L3 N 288 n5 9000 k') (by omega) (by omega) T 0 N (by omega) (by omega)
    obtain ⟨len', fl', to', q1, q2, q3, q4, q5, q6, q7⟩ := ih (2 * (T - syC is c T)) (fun t => len t + inc w (syC is c T) t) fl1 to1 k k' (by omega) (by omega) (by omega) (by
      cases c with
      | zero => exact Or.inl rfl
      | succ c =>
        refine Or.inr ?_
        have e : psz m (c + 1) = sz m c := rfl
        rw [e] at hse
        rw [show c + 1 - 1 = c by omega]
        omega) a1 d1 (fun t => by
      have := inc_le (t := t) ho hmo.1
      have := h3 t
      show len t + inc w (syC is c T) t + c ≤ L
      omega) (fun t ht => by
      show len t + inc w (syC is c T) t = 0
      rw [h4 t ht, inc_z ho hmo.1 ht])
    refine ⟨len', fl', to', q1, q2, q3, q4, fun x hx => by rw [q5 x hx, d2 x hx], ?_, ?_⟩
    · rw [g_LengthMaker_takeItems_L1, nI_pred, if_neg (nI_pos (by omega)), ← q6]
      exact a2
    · rw [g_Mo_findLengths_L3, nI_pred, if_neg (nI_pos (by omega)), ← q7, ← d3]
      exact d4
theorem zero_loop {n1' a n' n5 N : Nat} {fr or_ ls br li is : Nat → Int32} {x4 : Int32} (ha : a + n' ≤ n5) (hn5 : n5 ≤ 1000) : ∀ (d k : Nat) (to : Nat → Int32) (M : Nat), k + d = n' → d < M → (∀ t, t < k → to (a + t) = 0) → ∃ to' M2, (∀ t, t < n' → to' (a + t) = 0) ∧ (∀ x, x < a ∨ a + n' ≤ x → to' x = to x) ∧ g_Mo_findLengths_L1 N n1' fr 288 n5 15 600 600 9000 M (nI a) (nI n') x4 (nI k) or_ to ls br li is = g_Mo_findLengths_L1 N n1' fr 288 n5 15 600 600 9000 (M2 + 1) (nI a) (nI n') x4 (nI n') or_ to' ls br li is := by
  intro d
  induction d with
  | zero =>
    intro k to M hk hM h
    obtain ⟨q, rfl⟩ := succ_of hM
    have e : k = n' := by omega
    subst e
    exact ⟨to, q, h, fun _ _ => rfl, rfl⟩
  | succ d ih =>
    intro k to M hk hM h
    obtain ⟨q, rfl⟩ := succ_of hM
    rw [g_Mo_findLengths_L1, if_neg (nI_ge (by omega) (by omega)), nI_add, if_neg (nI_in (by omega) (by omega)), nI_clamp (n := a + k) (by omega), nI_1]
    obtain ⟨to', M2, q1, q2, q3⟩ := ih (k + 1) (upd to (a + k) 0) q (by omega) (by omega) (fun t ht => by
      by_cases z : t = k
      · subst z; rw [pk_us]
      · rw [pk_un (by omega)]; exact h t (by omega))
    exact ⟨to', M2, q1, fun x hx => by rw [q2 x hx, pk_un (by omega)], q3⟩
/-- the lengths: what the class makes and what the reference finds -/
theorem sim_lengths {fc fr fl oc pr r2 r1 or_ to ls br li is : Nat → Int32} {n n' n1 n1' n5 a N L : Nat} (hn : n ≤ 286) (hn1 : n ≤ n1) (hb1 : n1 ≤ 1000) (hb2 : n1' ≤ 1000) (ha1 : a + n' ≤ n1') (hnn : n ≤ n') (hn' : n' ≤ 288) (ha : a + n' ≤ n5) (hn5 : n5 ≤ 1000) (hN : 100000 ≤ N) (hL0 : 1 ≤ L) (hL : L ≤ 15) (hsz : ∀ m, m ≤ n → 2 * m - 2 ≤ sz m (L - 1)) (hcf : ∀ t, t < n → fc t = fr (a + t)) (hz : ∀ t, n ≤ t → t < n' → fr (a + t) = 0) :
    ∃ (len : Nat → Nat) (fl' oc' pr' r2' r1' or' to' ls' br' li' is' : Nat → Int32), mt fl' 0 288 len ∧ (∀ t, t < n' → to' (a + t) = nI (len t)) ∧ (∀ t, len t ≤ L) ∧ (∀ t, n ≤ t → len t = 0) ∧ (∀ x, x < a ∨ a + n' ≤ x → to' x = to x) ∧
      g_LengthMaker_make_0 N 288 n1 fc 286 572 572 572 (nI n) (nI L) fl oc pr r2 r1 = some (fl', oc', pr', r2', r1') ∧
      g_Mo_findLengths_0 N n1' fr 288 n5 15 600 600 9000 (nI a) (nI n') (nI L) or_ to ls br li is = some (or', to', ls', br', li', is') := by
  obtain ⟨fl0, e1, z1⟩ := fill2_ok (n0 := 288) (v := 0) (f := fl) (N := N) (by omega) hN
  obtain ⟨to0, M2, z2, z3, e2⟩ := zero_loop (n1' := n1') (N := N) (fr := fr) (or_ := or_) (ls := ls) (br := br) (li := li) (is := is) (x4 := nI L) ha hn5 n' 0 to N (by omega) (by omega) (fun t ht => by omega)
  obtain ⟨m, oc', or', w, ho, e3, e4⟩ := sim_sort (oc := oc) (or_ := or_) hn hn1 hb1 hb2 ha1 hnn hN hcf hz
  have hm := ho.1
  have e2' : g_Mo_findLengths_L1 N n1' fr 288 n5 15 600 600 9000 N (nI a) (nI n') (nI L) 0 or_ to ls br li is = g_Mo_findLengths_L1 N n1' fr 288 n5 15 600 600 9000 (M2 + 1) (nI a) (nI n') (nI L) (nI n') or_ to0 ls br li is := e2
  have eC : g_LengthMaker_make_0 N 288 n1 fc 286 572 572 572 (nI n) (nI L) fl oc pr r2 r1 = (if nI m = 1 then (if (0 : Int32) < 0 ∨ 286 ≤ (0 : Int32).toNatClampNeg then none else (if oc' (0 : Int32).toNatClampNeg < 0 ∨ 288 ≤ (oc' (0 : Int32).toNatClampNeg).toNatClampNeg then none else (g_LengthMaker_make_J1 N 288 n1 fc 286 572 572 572 (nI L) (nI m) (upd fl0 (oc' (0 : Int32).toNatClampNeg).toNatClampNeg 1) oc' pr r2 r1))) else (g_LengthMaker_make_J1 N 288 n1 fc 286 572 572 572 (nI L) (nI m) fl0 oc' pr r2 r1)) := by
    rw [g_LengthMaker_make_0, e1, Option.bind_some, e3]
    rfl
  have eR : g_Mo_findLengths_0 N n1' fr 288 n5 15 600 600 9000 (nI a) (nI n') (nI L) or_ to ls br li is = (if nI m = 1 then (if (0 : Int32) < 0 ∨ 288 ≤ (0 : Int32).toNatClampNeg then none else (if nI a + (or' (0 : Int32).toNatClampNeg) < 0 ∨ n5 ≤ (nI a + (or' (0 : Int32).toNatClampNeg)).toNatClampNeg then none else (g_Mo_findLengths_J1 N n1' fr 288 n5 15 600 600 9000 (nI a) (nI L) (nI m) or' (upd to0 (nI a + (or' (0 : Int32).toNatClampNeg)).toNatClampNeg 1) ls br li is))) else (g_Mo_findLengths_J1 N n1' fr 288 n5 15 600 600 9000 (nI a) (nI L) (nI m) or' to0 ls br li is)) := by
    rw [g_Mo_findLengths_0, e2', g_Mo_findLengths_L1, if_pos (nI_le (Nat.le_refl _) (by omega)), e4]
    rfl
  rw [eC, eR]
  have c0 : (0 : Int32).toNatClampNeg = 0 := by decide
  by_cases c1 : m = 1
  · subst c1
    obtain ⟨o1, o2, o3⟩ := ho.2.1 0 (by omega)
    rw [if_pos (show nI 1 = 1 from rfl), if_pos (show nI 1 = 1 from rfl), if_neg (show ¬ ((0 : Int32) < 0 ∨ 286 ≤ (0 : Int32).toNatClampNeg) by decide), if_neg (show ¬ ((0 : Int32) < 0 ∨ 288 ≤ (0 : Int32).toNatClampNeg) by decide), c0, o1, o2, nI_add, if_neg (nI_in (by omega) (by omega)), if_neg (nI_in (by omega) (by omega)), nI_clamp (n := w 0) (by omega), nI_clamp (n := a + w 0) (by omega), g_LengthMaker_make_J1, if_pos (by decide), g_Mo_findLengths_J1, if_neg (by decide)]
    refine ⟨fun t => if t = w 0 then 1 else 0, upd fl0 (w 0) 1, oc', pr, r2, r1, or', upd to0 (a + w 0) 1, ls, br, li, is, fun t ht => ⟨?_, ?_⟩, fun t ht => ?_, fun t => ?_, fun t ht => ?_, fun x hx => ?_, rfl, rfl⟩
    · rw [Nat.zero_add]
      show _ = nI (if t = w 0 then 1 else 0)
      by_cases z : t = w 0
      · rw [z, pk_us, if_pos rfl]; rfl
      · rw [pk_un z, z1 t ht, if_neg z]; rfl
    · dsimp only; split <;> omega
    · show _ = nI (if t = w 0 then 1 else 0)
      by_cases z : t = w 0
      · rw [z, pk_us, if_pos rfl]; rfl
      · rw [pk_un (by omega), z2 t ht, if_neg z]; rfl
    · dsimp only; split <;> omega
    · show (if t = w 0 then 1 else 0) = 0
      rw [if_neg (by omega)]
    · rw [pk_un (by omega), z3 x hx]
  · rw [if_neg (by rw [z_1, nI_eq (by omega) (by omega)]; exact c1), if_neg (by rw [z_1, nI_eq (by omega) (by omega)]; exact c1), g_LengthMaker_make_J1, g_Mo_findLengths_J1]
    by_cases c2 : m ≤ 1
    · rw [if_pos (show nI m ≤ (1 : Int32) from nI_le (b := 1) c2 (by omega)), if_neg (show ¬ (2 : Int32) ≤ nI m from nI_ge (b := 2) (by omega) (by omega))]
      refine ⟨fun _ => 0, fl0, oc', pr, r2, r1, or', to0, ls, br, li, is, fun t ht => ⟨by rw [Nat.zero_add]; exact z1 t ht, Nat.zero_le _⟩, fun t ht => z2 t ht, fun t => Nat.zero_le _, fun _ _ => rfl, z3, rfl, rfl⟩
    · rw [if_neg (show ¬ nI m ≤ (1 : Int32) from nI_ge (a := 1) (by omega) (by omega)), if_pos (show (2 : Int32) ≤ nI m from nI_le (a := 2) (by omega) (by omega)), g_LengthMaker_makeLists_0]
      obtain ⟨pr0, f1, f2⟩ := fill2_ok (n0 := 572) (v := 0) (f := pr) (N := N) (by omega) hN
      obtain ⟨pr', r2', r1', ls', br', li', is', u1, u2, u3⟩ := sim_lists (fc := fc) (to := to0) (n5 := n5) (L := L) (N := N) (show m ≤ 286 by omega) hL hn1 hb1 (show a + n ≤ n1' by omega) hb2 ho hcf hN L 0 pr0 r2 r1 ls br li is N N (by omega) (by omega) (by omega) (fun j hj => absurd hj (Nat.not_lt_zero j)) (Or.inl rfl) ⟨fun k hk => absurd hk (Nat.not_lt_zero k), fun k _ _ j hj => by rw [f2 j hj]; exact b_0 k⟩
      rw [if_pos (by rfl)] at u2
      have u2' : g_LengthMaker_makeLists_L1 N 572 572 286 oc' n1 fc 572 N (nI m) (nI L) 0 0 pr0 r2 r1 = some (pr', r2', r1') := u2
      have u3' : g_Mo_findLengths_L2 N n1' fr 288 n5 15 600 600 9000 N (nI a) (nI L) (nI m) 0 or' to0 ls br li is = g_Mo_findLengths_L3 N 288 n5 9000 N (nI a) ((2 * nI m) - 2) (nI L - 1) or' to0 ls' br' li' is' := u3
      have hT : (2 * nI m) - 2 = nI (2 * m - 2) := by rw [z_2, pk_mul, pk_sub (by omega)]
      obtain ⟨len', fl', to', q1, q2, q3, q4, q5, q6, q7⟩ := take_loop2 (ls := ls') (br := br') (li := li') (N := N) (show m ≤ 286 by omega) hn hL ho hnn hn' ha hn5 hN u1 L (2 * m - 2) (fun _ => 0) fl0 to0 N N (by omega) (by omega) (Nat.le_refl _) (Or.inr (hsz m hm)) (fun t ht => z1 t ht) (fun t ht => z2 t ht) (fun t => by omega) (fun _ _ => rfl)
      refine ⟨len', fl', oc', pr', r2', r1', or', to', ls', br', li', is', fun t ht => ⟨by rw [Nat.zero_add]; exact q1 t ht, by have := q3 t; omega⟩, q2, q3, q4, fun x hx => by rw [q5 x hx, z3 x hx], ?_, ?_⟩
      · rw [f1, Option.bind_some, u2', Option.bind_some, g_LengthMaker_takeItems_0, hT, q6, Option.bind_some]
      · rw [u3', hT]; exact q7
theorem sz15 : ∀ m, m < 287 → 2 * m - 2 ≤ sz m 14 := by decide +kernel
theorem sz7 : ∀ m, m < 20 → 2 * m - 2 ≤ sz m 6 := by decide +kernel
