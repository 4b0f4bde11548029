/-- the byte off places behind x -/
def kb (g : Nat → Int32) (off x : Nat) : Nat := (g (x + off)).toNatClampNeg
theorem kb_in {f g : Nat → Int32} {m off x : Nat} (h : rb f g m) (hx : x + off < m) : kb g off x < 256 ∧ g (x + off) = nI (kb g off x) ∧ f (x + off) = sb_b (kb g off x) ∧ f (x + off) &&& 255 = nI (kb g off x) := by
  obtain ⟨b, hb, e1, e2⟩ := h (x + off) hx
  have e : kb g off x = b := by unfold kb; rw [e1, nI_clamp (by omega)]
  rw [e]
  exact ⟨hb, e1, e2, by rw [e2, lo8_and hb]⟩
theorem ps1 {f g F : Nat → Int32} {m n off N : Nat} {X : Int32} {T : Nat → Int32} (h : rb f g m) (hm : m ≤ 9000) (hn : n = 0 ∨ n + off ≤ m) (hX : ∀ i, i ≤ 8192 → (X ≤ nI i ↔ n ≤ i)) (hn2 : n ≤ 8192) : ∀ (d i : Nat) (st : Nat → Int32) (M : Nat), i + d = n → d < M → (∀ b, b ≤ 256 → st b = nI (ct (fun y => decide (kb g off y + 1 = b)) i)) →
    ∃ st', g_Matcher_sort_L1 N 257 9000 f 8192 F 8192 M X (nI off) (nI i) st T = g_Matcher_sort_L2 N 257 9000 f 8192 F 8192 N X (nI off) 0 st' T ∧ (∀ b, b ≤ 256 → st' b = nI (ct (fun y => decide (kb g off y + 1 = b)) n)) := by
  intro d
  induction d with
  | zero =>
    intro i st M hi hM hs
    obtain ⟨k, rfl⟩ := succ_of hM
    have e : i = n := by omega
    subst e
    exact ⟨st, by rw [g_Matcher_sort_L1, if_pos ((hX i hn2).mpr (Nat.le_refl _))], hs⟩
  | succ d ih =>
    intro i st M hi hM hs
    obtain ⟨k, rfl⟩ := succ_of hM
    obtain ⟨b1, b2, b3, b4⟩ := kb_in h (show i + off < m by omega)
    have q := hX i (by omega)
    rw [g_Matcher_sort_L1, if_neg (fun z => by have := q.mp z; omega), nI_add, if_neg (nI_in (by omega) (by omega)), nI_clamp (by omega), b4, nI_1, if_neg (nI_in (by omega) (by omega)), nI_clamp (by omega), nI_1]
    refine ih (i + 1) _ k (by omega) (by omega) (fun b hb => ?_)
    rw [ct_s]
    by_cases c : b = kb g off i + 1
    · subst c
      rw [pk_us, hs _ hb, nI_1, if_pos (decide_eq_true rfl)]
    · rw [pk_un c, hs b hb, if_neg (fun z => c (of_decide_eq_true z).symm), Nat.add_zero]
theorem ps2 {f F : Nat → Int32} {key : Nat → Nat} {n N : Nat} {X Y : Int32} {T : Nat → Int32} (hn2 : n ≤ 8192) : ∀ (d b : Nat) (st : Nat → Int32) (M : Nat), b + d = 256 → d < M → (∀ j, j ≤ b → st j = nI (ct (fun y => decide (key y < j)) n)) → (∀ j, b < j → j ≤ 256 → st j = nI (ct (fun y => decide (key y + 1 = j)) n)) →
    ∃ st', g_Matcher_sort_L2 N 257 9000 f 8192 F 8192 M X Y (nI b) st T = g_Matcher_sort_L3 257 9000 f 8192 F 8192 N X Y 0 st' T ∧ (∀ j, j ≤ 256 → st' j = nI (ct (fun y => decide (key y < j)) n)) := by
  intro d
  induction d with
  | zero =>
    intro b st M hb hM h1 h2
    obtain ⟨k, rfl⟩ := succ_of hM
    exact ⟨st, by rw [g_Matcher_sort_L2, if_pos (show (256 : Int32) ≤ nI b from nI_le (a := 256) (by omega) (by omega))], fun j hj => h1 j (by omega)⟩
  | succ d ih =>
    intro b st M hb hM h1 h2
    obtain ⟨k, rfl⟩ := succ_of hM
    rw [g_Matcher_sort_L2, if_neg (show ¬ (256 : Int32) ≤ nI b from nI_ge (b := 256) (by omega) (by omega)), nI_1, if_neg (nI_in (by omega) (by omega)), if_neg (nI_in (by omega) (by omega)), nI_clamp (by omega), nI_clamp (by omega), h2 (b + 1) (by omega) (by omega), h1 b (Nat.le_refl _), nI_add]
    have e : ct (fun y => decide (key y < b + 1)) n = ct (fun y => decide (key y + 1 = b + 1)) n + ct (fun y => decide (key y < b)) n := by
      refine ct_add n (fun x _ => ?_) (fun x _ hx => ?_)
      · rw [Bool.eq_iff_iff]
        have : (key x < b + 1) ↔ (key x + 1 = b + 1 ∨ key x < b) := by omega
        simp only [Bool.or_eq_true, decide_eq_true_eq]
        exact this
      · have := of_decide_eq_true hx
        exact decide_eq_false (by omega)
    refine ih (b + 1) _ k (by omega) (by omega) (fun j hj => ?_) (fun j hj1 hj2 => ?_)
    · by_cases c : j = b + 1
      · subst c; rw [pk_us, e]
      · rw [pk_un c]; exact h1 j (by omega)
    · rw [pk_un (by omega)]; exact h2 j (by omega) hj2
theorem ps3 {f g F : Nat → Int32} {m n off B : Nat} {c : Nat → Nat} {X : Int32} (h : rb f g m) (hm : m ≤ 9000) (hn : n = 0 ∨ n + off ≤ m) (hX : ∀ i, i ≤ 8192 → (X ≤ nI i ↔ n ≤ i)) (hn2 : n ≤ 8192) (hc : ∀ x y, x < n → y < n → c x = c y → x = y) (hB : ∀ x, x < n → c x < B) (hF : ∀ x, x < n → F (rk c n x) = nI x) : ∀ (d i : Nat) (st T : Nat → Int32) (M : Nat), i + d = n → d < M →
    (∀ b, b < 256 → st b = nI (ct (fun y => decide (kb g off y < b)) n + ct (fun y => decide (kb g off y = b ∧ rk c n y < i)) n)) → (∀ x, x < n → rk c n x < i → T (rk (kc (kb g off) B c) n x) = nI x) →
    ∃ st' T', g_Matcher_sort_L3 257 9000 f 8192 F 8192 M X (nI off) (nI i) st T = some (st', T') ∧ (∀ x, x < n → T' (rk (kc (kb g off) B c) n x) = nI x) := by
  intro d
  induction d with
  | zero =>
    intro i st T M hi hM h1 h2
    obtain ⟨k, rfl⟩ := succ_of hM
    have e : i = n := by omega
    subst e
    exact ⟨st, T, by rw [g_Matcher_sort_L3, if_pos ((hX i hn2).mpr (Nat.le_refl _))], fun x hx => h2 x hx (rk_lt hx)⟩
  | succ d ih =>
    intro i st T M hi hM h1 h2
    obtain ⟨k, rfl⟩ := succ_of hM
    have q := hX i (by omega)
    obtain ⟨x, hx, ex⟩ := rk_sur hc (show i < n by omega)
    have eF : F i = nI x := by rw [← ex]; exact hF x hx
    obtain ⟨b1, b2, b3, b4⟩ := kb_in h (show x + off < m by omega)
    have er : rk (kc (kb g off) B c) n x = ct (fun y => decide (kb g off y < kb g off x)) n + ct (fun y => decide (kb g off y = kb g off x ∧ rk c n y < i)) n := by
      unfold rk
      refine ct_add n (fun y hy => ?_) (fun y _ hy => ?_)
      · have a := kc_lt (key := kb g off) (hB y hy) (hB x hx)
        have b := rk_iff (c := c) hy hx
        rw [ex] at b
        rw [Bool.eq_iff_iff]
        simp only [Bool.or_eq_true, decide_eq_true_eq]
        rw [a]
        unfold rk at b
        rw [b]
      · have := of_decide_eq_true hy
        exact decide_eq_false (by omega)
    have hr := rk_lt (c := kc (kb g off) B c) hx
    rw [g_Matcher_sort_L3, if_neg (fun z => by have := q.mp z; omega), if_neg (nI_in (by omega) (by omega)), nI_clamp (by omega), eF, nI_add, if_neg (nI_in (by omega) (by omega)), nI_clamp (by omega), b4, if_neg (nI_in (by omega) (by omega)), nI_clamp (by omega), h1 _ b1, ← er, if_neg (nI_in (by omega) (by omega)), nI_clamp (by omega), nI_1, nI_1]
    refine ih (i + 1) _ _ k (by omega) (by omega) (fun b hb => ?_) (fun y hy hry => ?_)
    · have es : ct (fun y => decide (kb g off y = b ∧ rk c n y < i + 1)) n = ct (fun y => decide (kb g off y = b ∧ rk c n y < i)) n + ct (fun y => decide (kb g off y = b ∧ y = x)) n := by
        refine ct_add n (fun y hy => ?_) (fun y _ hy => ?_)
        · rw [Bool.eq_iff_iff]
          simp only [Bool.or_eq_true, decide_eq_true_eq]
          constructor
          · rintro ⟨z1, z2⟩
            by_cases z : rk c n y = i
            · exact Or.inr ⟨z1, rk_inj hc hy hx (z.trans ex.symm)⟩
            · exact Or.inl ⟨z1, by omega⟩
          · rintro (⟨z1, z2⟩ | ⟨z1, z2⟩)
            · exact ⟨z1, by omega⟩
            · subst z2; exact ⟨z1, by omega⟩
        · have := of_decide_eq_true hy
          refine decide_eq_false (fun z => ?_)
          have z2 := z.2
          subst z2
          omega
      rw [es]
      by_cases cc : b = kb g off x
      · subst cc
        rw [pk_us, ct_one (P := fun y => decide (kb g off y = kb g off x ∧ y = x)) n x hx (decide_eq_true ⟨rfl, rfl⟩) (fun y _ hy => (of_decide_eq_true hy).2), er, Nat.add_assoc]
      · rw [pk_un cc, h1 b hb, ct_zero (P := fun y => decide (kb g off y = b ∧ y = x)) n (fun y _ => decide_eq_false (fun z => by
          obtain ⟨z1, z2⟩ := z
          subst z2
          exact cc z1.symm)), Nat.add_zero]
    · by_cases z : y = x
      · subst z; rw [pk_us]
      · have z2 : rk c n y < i := by
          rcases Nat.lt_or_ge (rk c n y) i with w | w
          · exact w
          · exact absurd (rk_inj hc hy hx (by omega)) z
        rw [pk_un (fun w => z (rk_inj (kc_inj hB hc) hy hx w))]
        exact h2 y hy z2
theorem pass {f g F st T : Nat → Int32} {m n off B N : Nat} {c : Nat → Nat} {X : Int32} (h : rb f g m) (hm : m ≤ 9000) (hn : n = 0 ∨ n + off ≤ m) (hX : ∀ i, i ≤ 8192 → (X ≤ nI i ↔ n ≤ i)) (hn2 : n ≤ 8192) (hN : 100000 ≤ N) (hc : ∀ x y, x < n → y < n → c x = c y → x = y) (hB : ∀ x, x < n → c x < B) (hF : ∀ x, x < n → F (rk c n x) = nI x) :
    ∃ st' T', g_Matcher_sort_0 N 257 9000 f 8192 F 8192 X (nI off) st T = some (st', T') ∧ (∀ x, x < n → T' (rk (kc (kb g off) B c) n x) = nI x) := by
  obtain ⟨s0, e0, z0⟩ := fill2_ok (n0 := 257) (v := 0) (f := st) (N := N) (by omega) hN
  obtain ⟨s1, e1, z1⟩ := ps1 (F := F) (N := N) (T := T) h hm hn hX hn2 n 0 s0 N (by omega) (by omega) (fun b hb => z0 b (by omega))
  obtain ⟨s2, e2, z2⟩ := ps2 (f := f) (F := F) (key := kb g off) (n := n) (N := N) (X := X) (Y := nI off) (T := T) hn2 256 0 s1 N (by omega) (by omega) (fun j hj => by
    rw [show j = 0 by omega, z1 0 (by omega), ct_zero (P := fun y => decide (kb g off y + 1 = 0)) n (fun x _ => decide_eq_false (by omega)), ct_zero (P := fun y => decide (kb g off y < 0)) n (fun x _ => decide_eq_false (by omega))]) (fun j _ hj => z1 j hj)
  obtain ⟨s3, T3, e3, z3⟩ := ps3 h hm hn hX hn2 hc hB hF n 0 s2 T N (by omega) (by omega) (fun b hb => by
    rw [z2 b (by omega), ct_zero (P := fun y => decide (kb g off y = b ∧ rk c n y < 0)) n (fun x _ => decide_eq_false (by omega)), Nat.add_zero]) (fun x _ hr => by omega)
  refine ⟨s3, T3, ?_, z3⟩
  rw [g_Matcher_sort_0, e0, Option.bind_some]
  have e1' : g_Matcher_sort_L1 N 257 9000 f 8192 F 8192 N X (nI off) 0 s0 T = g_Matcher_sort_L2 N 257 9000 f 8192 F 8192 N X (nI off) 0 s1 T := e1
  have e2' : g_Matcher_sort_L2 N 257 9000 f 8192 F 8192 N X (nI off) 0 s1 T = g_Matcher_sort_L3 257 9000 f 8192 F 8192 N X (nI off) 0 s2 T := e2
  rw [e1', e2']
  exact e3
