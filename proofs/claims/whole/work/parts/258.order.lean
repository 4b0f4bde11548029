/-- the symbols in order, in both arrays -/
def od (oc or_ : Nat → Int32) (w : Nat → Nat) (m k : Nat) : Prop := m ≤ k ∧ (∀ i, i < m → oc i = nI (w i) ∧ or_ i = nI (w i) ∧ w i < k) ∧ (∀ i j, i < m → j < m → w i = w j → i = j)
/-- the same with a hole at i -/
def oh (oc or_ : Nat → Int32) (w : Nat → Nat) (m i k : Nat) : Prop := (∀ j, j ≤ m → j ≠ i → oc j = nI (w j) ∧ or_ j = nI (w j) ∧ w j < k) ∧ (∀ j j', j ≤ m → j' ≤ m → j ≠ i → j' ≠ i → w j = w j' → j = j')
def updN (f : Nat → Nat) (k x : Nat) : Nat → Nat := fun j => if j = k then x else f j
theorem uNs {f : Nat → Nat} {k x : Nat} : updN f k x k = x := if_pos rfl
theorem uNn {f : Nat → Nat} {k j x : Nat} (h : j ≠ k) : updN f k x j = f j := if_neg h
theorem oh_put {oc or_ : Nat → Int32} {w : Nat → Nat} {m i k : Nat} (hi : i ≤ m) (hm : m ≤ k) (h : oh oc or_ w m i k) : od (upd oc i (nI k)) (upd or_ i (nI k)) (updN w i k) (m + 1) (k + 1) := by
  refine ⟨by omega, fun j hj => ?_, fun j j' hj hj' e => ?_⟩
  · by_cases c : j = i
    · subst c; rw [pk_us, pk_us, uNs]; exact ⟨rfl, rfl, by omega⟩
    · rw [pk_un c, pk_un c, uNn c]
      obtain ⟨a, b, d⟩ := h.1 j (by omega) c
      exact ⟨a, b, by omega⟩
  · by_cases c : j = i
    · by_cases c' : j' = i
      · omega
      · subst c
        rw [uNs, uNn c'] at e
        have := (h.1 j' (by omega) c').2.2
        omega
    · by_cases c' : j' = i
      · subst c'
        rw [uNs, uNn c] at e
        have := (h.1 j (by omega) c).2.2
        omega
      · rw [uNn c, uNn c'] at e
        exact h.2 j j' (by omega) (by omega) c c' e
theorem oh_move {oc or_ : Nat → Int32} {w : Nat → Nat} {m i k : Nat} (hi : i + 1 ≤ m) (h : oh oc or_ w m (i + 1) k) : oh (upd oc (i + 1) (oc i)) (upd or_ (i + 1) (or_ i)) (updN w (i + 1) (w i)) m i k := by
  have hi' := h.1 i (by omega) (by omega)
  refine ⟨fun j hj hji => ?_, fun j j' hj hj' a b e => ?_⟩
  · by_cases c : j = i + 1
    · subst c; rw [pk_us, pk_us, uNs]; exact hi'
    · rw [pk_un c, pk_un c, uNn c]; exact h.1 j hj c
  · by_cases c : j = i + 1
    · by_cases c' : j' = i + 1
      · omega
      · subst c
        rw [uNs, uNn c'] at e
        have := h.2 i j' (by omega) hj' (by omega) c' e
        omega
    · by_cases c' : j' = i + 1
      · subst c'
        rw [uNs, uNn c] at e
        have := h.2 j i hj (by omega) c (by omega) e
        omega
      · rw [uNn c, uNn c'] at e
        exact h.2 j j' hj hj' c c' e
theorem ins_loop {fc fr : Nat → Int32} {n n1 n1' n' a m s : Nat} {K : Int32 → Int32 → Int32 → (Nat → Int32) → Option (Int32 × (Nat → Int32))} {K' : Int32 → Int32 → Int32 → Int32 → (Nat → Int32) → Option (Int32 × (Nat → Int32))} (hn : n ≤ 286) (hn1 : n ≤ n1) (hb1 : n1 ≤ 1000) (hb2 : n1' ≤ 1000) (ha : a + n ≤ n1') (hcf : ∀ t, t < n → fc t = fr (a + t)) (hs : s < n) (hms : m ≤ s) : ∀ (i : Nat) (oc or_ : Nat → Int32) (w : Nat → Nat) (M M' : Nat), i ≤ m → i < M → i < M' → oh oc or_ w m i s →
    ∃ oc' or' w', od oc' or' w' (m + 1) (s + 1) ∧ g_LengthMaker_sortSymbols_L2 n1 fc 286 K M (nI n) (nI m) (nI s) (nI i) oc = K (nI n) (nI (m + 1)) (nI (s + 1)) oc' ∧ g_Mo_sort_L2 n1' fr 288 K' M' (nI a) (nI n') (nI m) (nI s) (nI i) or_ = K' (nI a) (nI n') (nI (m + 1)) (nI (s + 1)) or' := by
  intro i
  have put : ∀ (i : Nat) (oc or_ : Nat → Int32) (w : Nat → Nat), i ≤ m → oh oc or_ w m i s → ∃ oc' or' w', od oc' or' w' (m + 1) (s + 1) ∧ g_LengthMaker_sortSymbols_J1 286 K (nI n) (nI m) (nI s) (nI i) oc = K (nI n) (nI (m + 1)) (nI (s + 1)) oc' ∧ g_Mo_sort_J1 288 K' (nI a) (nI n') (nI m) (nI s) (nI i) or_ = K' (nI a) (nI n') (nI (m + 1)) (nI (s + 1)) or' := by
    intro i oc or_ w hi h
    refine ⟨_, _, _, oh_put hi hms h, ?_, ?_⟩
    · rw [g_LengthMaker_sortSymbols_J1, if_neg (nI_in (by omega) (by omega)), nI_clamp (by omega), nI_1, nI_1]
    · rw [g_Mo_sort_J1, if_neg (nI_in (by omega) (by omega)), nI_clamp (by omega), nI_1, nI_1]
  induction i with
  | zero =>
    intro oc or_ w M M' hi hM hM' h
    obtain ⟨k, rfl⟩ := succ_of hM
    obtain ⟨k', rfl⟩ := succ_of hM'
    rw [g_LengthMaker_sortSymbols_L2, if_pos (by decide), g_Mo_sort_L2, if_pos (by decide)]
    exact put 0 oc or_ w hi h
  | succ i ih =>
    intro oc or_ w M M' hi hM hM' h
    obtain ⟨k, rfl⟩ := succ_of hM
    obtain ⟨k', rfl⟩ := succ_of hM'
    obtain ⟨e1, e2, e3⟩ := h.1 i (by omega) (by omega)
    have ex : fc (w i) = fr (a + w i) := hcf (w i) (by omega)
    have ey : fc s = fr (a + s) := hcf s hs
    have eC : g_LengthMaker_sortSymbols_L2 n1 fc 286 K (k + 1) (nI n) (nI m) (nI s) (nI (i + 1)) oc = (if fr (a + w i) ≤ fr (a + s) then g_LengthMaker_sortSymbols_J1 286 K (nI n) (nI m) (nI s) (nI (i + 1)) oc else g_LengthMaker_sortSymbols_L2 n1 fc 286 K k (nI n) (nI m) (nI s) (nI i) (upd oc (i + 1) (nI (w i)))) := by
      rw [g_LengthMaker_sortSymbols_L2, if_neg (nI_nle (by omega) (by omega)), nI_pred, if_neg (nI_in (by omega) (by omega)), nI_clamp (n := i) (by omega), e1, if_neg (nI_in (by omega) (by omega)), if_neg (nI_in (by omega) (by omega)), if_neg (nI_in (by omega) (by omega)), nI_clamp (n := w i) (by omega), nI_clamp (n := s) (by omega), nI_clamp (n := i + 1) (by omega), ex, ey, pk_m1]
    have eR : g_Mo_sort_L2 n1' fr 288 K' (k' + 1) (nI a) (nI n') (nI m) (nI s) (nI (i + 1)) or_ = (if fr (a + w i) ≤ fr (a + s) then g_Mo_sort_J1 288 K' (nI a) (nI n') (nI m) (nI s) (nI (i + 1)) or_ else g_Mo_sort_L2 n1' fr 288 K' k' (nI a) (nI n') (nI m) (nI s) (nI i) (upd or_ (i + 1) (nI (w i)))) := by
      rw [g_Mo_sort_L2, if_neg (nI_nle (by omega) (by omega)), nI_pred, if_neg (nI_in (by omega) (by omega)), nI_clamp (n := i) (by omega), e2, nI_add, nI_add, if_neg (nI_in (by omega) (by omega)), if_neg (nI_in (by omega) (by omega)), if_neg (nI_in (by omega) (by omega)), nI_clamp (n := a + w i) (by omega), nI_clamp (n := a + s) (by omega), nI_clamp (n := i + 1) (by omega), pk_m1]
    rw [eC, eR]
    by_cases c : fr (a + w i) ≤ fr (a + s)
    · rw [if_pos c, if_pos c]
      exact put (i + 1) oc or_ w hi h
    · rw [if_neg c, if_neg c]
      have hm := oh_move hi h
      rw [e1, e2] at hm
      exact ih _ _ _ k k' (by omega) (by omega) (by omega) hm
theorem od_hole {oc or_ : Nat → Int32} {w : Nat → Nat} {m k : Nat} (h : od oc or_ w m k) : oh oc or_ w m m k := ⟨fun j hj hne => h.2.1 j (by omega), fun j j' hj hj' a b e => h.2.2 j j' (by omega) (by omega) e⟩
theorem od_up {oc or_ : Nat → Int32} {w : Nat → Nat} {m k k' : Nat} (hk : k ≤ k') (h : od oc or_ w m k) : od oc or_ w m k' := ⟨Nat.le_trans h.1 hk, fun i hi => ⟨(h.2.1 i hi).1, (h.2.1 i hi).2.1, Nat.lt_of_lt_of_le (h.2.1 i hi).2.2 hk⟩, h.2.2⟩
theorem sort_loop {fc fr : Nat → Int32} {n n1 n1' n' a N : Nat} (hn : n ≤ 286) (hn1 : n ≤ n1) (hb1 : n1 ≤ 1000) (hb2 : n1' ≤ 1000) (ha : a + n' ≤ n1') (hnn : n ≤ n') (hN : 100000 ≤ N) (hcf : ∀ t, t < n → fc t = fr (a + t)) (hz : ∀ t, n ≤ t → t < n' → fr (a + t) = 0) : ∀ (d s m : Nat) (oc or_ : Nat → Int32) (w : Nat → Nat) (M M' : Nat), s + d = n → d < M → n' < M' + s → od oc or_ w m s →
    ∃ (m' : Nat) (oc' or' : Nat → Int32) (w' : Nat → Nat), od oc' or' w' m' n ∧ g_LengthMaker_sortSymbols_L1 N n1 fc 286 M (nI n) (nI m) (nI s) oc = some (nI m', oc') ∧ g_Mo_sort_L1 N n1' fr 288 M' (nI a) (nI n') (nI m) (nI s) or_ = some (nI m', or') := by
  intro d
  induction d with
  | zero =>
    intro s m oc or_ w M M' hs hM hM' h
    obtain ⟨k, rfl⟩ := succ_of hM
    have es : s = n := by omega
    subst es
    refine ⟨m, oc, or_, w, h, ?_, ?_⟩
    · rw [g_LengthMaker_sortSymbols_L1, if_pos (nI_le (Nat.le_refl _) (by omega))]
    · have skip : ∀ (e t M' : Nat), t + e = n' → s ≤ t → e < M' → g_Mo_sort_L1 N n1' fr 288 M' (nI a) (nI n') (nI m) (nI t) or_ = some (nI m, or_) := by
        intro e
        induction e with
        | zero =>
          intro t M' ht hst hM'
          obtain ⟨k', rfl⟩ := succ_of hM'
          rw [g_Mo_sort_L1, if_pos (nI_le (by omega) (by omega))]
        | succ e ih =>
          intro t M' ht hst hM'
          obtain ⟨k', rfl⟩ := succ_of hM'
          rw [g_Mo_sort_L1, if_neg (nI_ge (by omega) (by omega)), nI_add, if_neg (nI_in (by omega) (by omega)), nI_clamp (by omega), hz t hst (by omega), if_pos (by decide), nI_1]
          exact ih (t + 1) k' (by omega) (by omega) (by omega)
      exact skip (n' - s) s M' (by omega) (Nat.le_refl _) (by omega)
  | succ d ih =>
    intro s m oc or_ w M M' hs hM hM' h
    obtain ⟨k, rfl⟩ := succ_of hM
    obtain ⟨k', rfl⟩ := succ_of (show 0 < M' by omega)
    have hm := h.1
    rw [g_LengthMaker_sortSymbols_L1, if_neg (nI_ge (by omega) (by omega)), if_neg (nI_in (by omega) (by omega)), nI_clamp (by omega), hcf s (by omega), g_Mo_sort_L1, if_neg (nI_ge (by omega) (by omega)), nI_add, if_neg (nI_in (by omega) (by omega)), nI_clamp (by omega)]
    by_cases c : fr (a + s) ≤ 0
    · rw [if_pos c, if_pos c, nI_1]
      exact ih (s + 1) m oc or_ w k k' (by omega) (by omega) (by omega) (od_up (by omega) h)
    · rw [if_neg c, if_neg c]
      obtain ⟨oc', or', w', q1, q2, q3⟩ := ins_loop (n' := n') (K := g_LengthMaker_sortSymbols_L1 N n1 fc 286 k) (K' := g_Mo_sort_L1 N n1' fr 288 k') hn hn1 hb1 hb2 (by omega) hcf (show s < n by omega) hm m oc or_ w N N (Nat.le_refl _) (by omega) (by omega) (od_hole h)
      rw [q2, q3]
      exact ih (s + 1) (m + 1) oc' or' w' k k' (by omega) (by omega) (by omega) q1
theorem sim_sort {fc fr oc or_ : Nat → Int32} {n n1 n1' n' a N : Nat} (hn : n ≤ 286) (hn1 : n ≤ n1) (hb1 : n1 ≤ 1000) (hb2 : n1' ≤ 1000) (ha : a + n' ≤ n1') (hnn : n ≤ n') (hN : 100000 ≤ N) (hcf : ∀ t, t < n → fc t = fr (a + t)) (hz : ∀ t, n ≤ t → t < n' → fr (a + t) = 0) :
    ∃ (m : Nat) (oc' or' : Nat → Int32) (w : Nat → Nat), od oc' or' w m n ∧ g_LengthMaker_sortSymbols_0 N n1 fc 286 (nI n) oc = some (nI m, oc') ∧ g_Mo_sort_0 N n1' fr 288 (nI a) (nI n') or_ = some (nI m, or') := by
  rw [g_LengthMaker_sortSymbols_0, g_Mo_sort_0]
  exact sort_loop hn hn1 hb1 hb2 ha hnn hN hcf hz n 0 0 oc or_ (fun _ => 0) N N (by omega) (by omega) (by omega) ⟨Nat.le_refl _, fun i hi => absurd hi (Nat.not_lt_zero i), fun i j hi => absurd hi (Nat.not_lt_zero i)⟩
