theorem cS_s (A V : Nat → Int32) (j s : Nat) : cS A V (j + 1) s = cS A V j s + (if tS A V j = s then 1 else 0) := by
  unfold cS
  rw [ct_s]
  by_cases c : tS A V j = s
  · rw [if_pos (decide_eq_true c), if_pos c]; omega
  · rw [if_neg (fun z => c (of_decide_eq_true z)), if_neg c]; omega
theorem cD_s (A V : Nat → Int32) (j s : Nat) : cD A V (j + 1) s = cD A V j s + (if tD A V j = s then 1 else 0) := by
  unfold cD
  rw [ct_s]
  by_cases c : tD A V j = s
  · rw [if_pos (decide_eq_true c), if_pos c]
  · rw [if_neg (fun z => c (of_decide_eq_true z)), if_neg c]
/-- the reference's counts -/
def kr (cu A V : Nat → Int32) (k : Nat) : Prop := (∀ s, s < 286 → cu s = nI (cS A V k s)) ∧ (∀ s, 286 ≤ s → s < 288 → cu s = 0) ∧ (∀ d, d < 30 → cu (288 + d) = nI (cD A V k d)) ∧ (∀ d, 30 ≤ d → d < 32 → cu (288 + d) = 0)
theorem cnt_loop {it A V : Nat → Int32} {k N : Nat} (hN : 100000 ≤ N) (hk : k ≤ 4096) (h : tk k it A V) : ∀ (d t : Nat) (cu : Nat → Int32) (M : Nat), t + d = k → d < M → kr cu A V t → ∃ cu', kr cu' A V k ∧ g_Mo_count_L2 N (nI k) 320 4096 A 4096 V M (nI t) cu = some cu' := by
  intro d
  induction d with
  | zero =>
    intro t cu M ht hM hr
    obtain ⟨q, rfl⟩ := succ_of hM
    have e : t = k := by omega
    subst e
    exact ⟨cu, hr, by rw [g_Mo_count_L2, if_pos (nI_le (by omega) (by omega))]⟩
  | succ d ih =>
    intro t cu M ht hM hr
    obtain ⟨q, rfl⟩ := succ_of hM
    obtain ⟨r1, r2, r3, r4⟩ := hr
    rcases tok_in h (show t < k by omega) with ⟨v, hv, a0, v0, _, s0, d0, az⟩ | ⟨l, v, l1, l2, v1, v2, a0, v0, _, s0, d0, an⟩
    · have cv : kr (upd cu v (cu v + 1)) A V (t + 1) := by
        refine ⟨fun s hs => ?_, fun s h1 h2 => ?_, fun e he => ?_, fun e h1 h2 => ?_⟩
        · rw [cS_s, s0]
          by_cases c : s = v
          · subst c; rw [pk_us, r1 s hs, if_pos rfl, nI_1]
          · rw [pk_un c, r1 s hs, if_neg (fun z => c z.symm), Nat.add_zero]
        · rw [pk_un (by omega), r2 s h1 h2]
        · rw [cD_s, d0, pk_un (by omega), r3 e he, if_neg (by omega), Nat.add_zero]
        · rw [pk_un (by omega), r4 e h1 h2]
      obtain ⟨cu', k', e'⟩ := ih (t + 1) _ q (by omega) (by omega) cv
      refine ⟨cu', k', ?_⟩
      rw [← e', g_Mo_count_L2, if_neg (nI_ge (by omega) (by omega)), if_neg (nI_in (by omega) (by omega)), nI_clamp (n := t) (by omega), if_pos az, if_neg (nI_in2 (by omega) (by omega)), v0, if_neg (nI_in (by omega) (by omega)), nI_clamp (n := v) (by omega), nI_1]
    · obtain ⟨ls1, ls2⟩ := lS_in l1 l2
      obtain ⟨ds1, _, _⟩ := dS_in v1 v2
      have cv : kr (upd (upd cu (lS l) (cu (lS l) + 1)) (288 + dS v) ((upd cu (lS l) (cu (lS l) + 1)) (288 + dS v) + 1)) A V (t + 1) := by
        refine ⟨fun s hs => ?_, fun s h1 h2 => ?_, fun e he => ?_, fun e h1 h2 => ?_⟩
        · rw [cS_s, s0, pk_un (by omega)]
          by_cases c : s = lS l
          · subst c; rw [pk_us, r1 _ hs, if_pos rfl, nI_1]
          · rw [pk_un c, r1 s hs, if_neg (fun z => c z.symm), Nat.add_zero]
        · rw [pk_un (by omega), pk_un (by omega), r2 s h1 h2]
        · rw [cD_s, d0]
          by_cases c : e = dS v
          · subst c; rw [pk_us, pk_un (by omega), r3 _ he, if_pos rfl, nI_1]
          · rw [pk_un (by omega), pk_un (by omega), r3 e he, if_neg (fun z => c z.symm), Nat.add_zero]
        · rw [pk_un (by omega), pk_un (by omega), r4 e h1 h2]
      obtain ⟨cu', k', e'⟩ := ih (t + 1) _ q (by omega) (by omega) cv
      refine ⟨cu', k', ?_⟩
      have e288 : (288 : Int32) + nI (dS v) = nI (288 + dS v) := nI_add 288 _
      rw [← e', g_Mo_count_L2, if_neg (nI_ge (by omega) (by omega)), if_neg (nI_in (by omega) (by omega)), nI_clamp (n := t) (by omega), if_neg an, a0, sL_ref l1 l2 hN, Option.bind_some, if_neg (nI_in (by omega) (by omega)), if_neg (nI_in2 (by omega) (by omega)), v0, sD_ref v1 v2 hN, Option.bind_some, e288, if_neg (nI_in (by omega) (by omega)), nI_clamp (n := lS l) (by omega), nI_clamp (n := 288 + dS v) (by omega), nI_1 t]
theorem cnt_zero {A V : Nat → Int32} {k N : Nat} : ∀ (d j : Nat) (cu : Nat → Int32) (M : Nat), j + d = 320 → d < M → (∀ t, t < j → cu t = 0) → ∃ cu', (∀ t, t < 320 → cu' t = 0) ∧ g_Mo_count_L1 N (nI k) 320 4096 A 4096 V M (nI j) cu = g_Mo_count_L2 N (nI k) 320 4096 A 4096 V N (nI 0) (upd cu' 256 1) := by
  intro d
  induction d with
  | zero =>
    intro j cu M hj hM h
    obtain ⟨q, rfl⟩ := succ_of hM
    have e : j = 320 := by omega
    subst e
    refine ⟨cu, h, ?_⟩
    rw [g_Mo_count_L1, if_pos (show (320 : Int32) ≤ nI 320 by decide), if_neg (show ¬ ((256 : Int32) < 0 ∨ 320 ≤ (256 : Int32).toNatClampNeg) by decide)]
    rfl
  | succ d ih =>
    intro j cu M hj hM h
    obtain ⟨q, rfl⟩ := succ_of hM
    obtain ⟨cu', h', r⟩ := ih (j + 1) (upd cu j 0) q (by omega) (by omega) (fun t ht => by
      by_cases c : t = j
      · subst c; exact pk_us
      · rw [pk_un c]; exact h t (by omega))
    refine ⟨cu', h', ?_⟩
    rw [← r, g_Mo_count_L1, if_neg (show ¬ (320 : Int32) ≤ nI j from nI_ge (b := 320) (by omega) (by omega)), if_neg (nI_in (by omega) (by omega)), nI_clamp (n := j) (by omega), nI_1]
theorem cnt_ok {it A V cu : Nat → Int32} {k N : Nat} (hN : 100000 ≤ N) (hk : k ≤ 4096) (h : tk k it A V) : ∃ cu', kr cu' A V k ∧ g_Mo_count_0 N (nI k) 320 4096 A 4096 V cu = some cu' := by
  obtain ⟨cu1, h1, e1⟩ := cnt_zero (A := A) (V := V) (k := k) (N := N) 320 0 cu N (by omega) (by omega) (fun t ht => absurd ht (Nat.not_lt_zero t))
  obtain ⟨cu2, h2, e2⟩ := cnt_loop hN hk h k 0 (upd cu1 256 1) N (by omega) (by omega) (by
    refine ⟨fun s hs => ?_, fun s a b => ?_, fun e he => ?_, fun e a b => ?_⟩
    · show _ = nI (0 + (if s = 256 then 1 else 0))
      by_cases c : s = 256
      · subst c; rw [pk_us, if_pos rfl]; rfl
      · rw [pk_un c, if_neg c, h1 s (by omega)]; rfl
    · rw [pk_un (by omega), h1 s (by omega)]
    · show _ = nI 0
      rw [pk_un (by omega), h1 _ (by omega)]; rfl
    · rw [pk_un (by omega), h1 _ (by omega)])
  exact ⟨cu2, h2, by rw [g_Mo_count_0]; exact e1.trans e2⟩
/-- the lengths of both codes, made out of what was found -/
theorem sim_both {A V sc dc cu fs_ fd oc0 pr0 r20 r10 or_ ln ls br li is : Nat → Int32} {k N : Nat} (hN : 100000 ≤ N) (hks : ks sc dc A V k) (hkr : kr cu A V k) : ∃ (len1 len2 : Nat → Nat) (ms md oc1 pr1 r21 r11 oc pr r2 r1 or1 ln1 ls1 br1 li1 is1 or' ln' ls' br' li' is' : Nat → Int32), mt ms 0 288 len1 ∧ mt md 0 288 len2 ∧ mt ln' 0 288 len1 ∧ mt ln' 288 32 len2 ∧ (∀ t, 286 ≤ t → len1 t = 0) ∧ (∀ t, 30 ≤ t → len2 t = 0) ∧ g_LengthMaker_make_0 N 288 286 sc 286 572 572 572 286 15 fs_ oc0 pr0 r20 r10 = some (ms, oc1, pr1, r21, r11) ∧ g_LengthMaker_make_0 N 288 30 dc 286 572 572 572 30 15 fd oc1 pr1 r21 r11 = some (md, oc, pr, r2, r1) ∧ g_Mo_findLengths_0 N 320 cu 288 320 15 600 600 9000 0 288 15 or_ ln ls br li is = some (or1, ln1, ls1, br1, li1, is1) ∧ g_Mo_findLengths_0 N 320 cu 288 320 15 600 600 9000 288 32 15 or1 ln1 ls1 br1 li1 is1 = some (or', ln', ls', br', li', is') := by
  obtain ⟨k1, k2⟩ := hks
  obtain ⟨q1, q2, q3, q4⟩ := hkr
  obtain ⟨len1, ms, oc1, pr1, r21, r11, or1, ln1, ls1, br1, li1, is1, f1, f2, f3, f4, f5, e1, e2⟩ := sim_lengths (fc := sc) (fr := cu) (fl := fs_) (oc := oc0) (pr := pr0) (r2 := r20) (r1 := r10) (or_ := or_) (to := ln) (ls := ls) (br := br) (li := li) (is := is) (n := 286) (n' := 288) (n1 := 286) (n1' := 320) (n5 := 320) (a := 0) (N := N) (L := 15) (by omega) (by omega) (by omega) (by omega) (by omega) (by omega) (by omega) (by omega) (by omega) hN (by omega) (by omega) (fun m hm => sz15 m (by omega)) (fun t ht => by rw [Nat.zero_add, k1 t ht, q1 t ht]) (fun t h1 h2 => by rw [Nat.zero_add, q2 t h1 h2])
  obtain ⟨len2, md, oc, pr, r2, r1, or', ln', ls', br', li', is', g1, g2, g3, g4, g5, e3, e4⟩ := sim_lengths (fc := dc) (fr := cu) (fl := fd) (oc := oc1) (pr := pr1) (r2 := r21) (r1 := r11) (or_ := or1) (to := ln1) (ls := ls1) (br := br1) (li := li1) (is := is1) (n := 30) (n' := 32) (n1 := 30) (n1' := 320) (n5 := 320) (a := 288) (N := N) (L := 15) (by omega) (by omega) (by omega) (by omega) (by omega) (by omega) (by omega) (by omega) (by omega) hN (by omega) (by omega) (fun m hm => sz15 m (by omega)) (fun t ht => by rw [k2 t ht, q3 t ht]) (fun t h1 h2 => by rw [q4 t h1 h2])
  refine ⟨len1, len2, ms, md, oc1, pr1, r21, r11, oc, pr, r2, r1, or1, ln1, ls1, br1, li1, is1, or', ln', ls', br', li', is', f1, g1, fun t ht => ⟨?_, f3 t⟩, fun t ht => ⟨g2 t ht, g3 t⟩, f4, g4, e1, e3, e2, e4⟩
  rw [g5 (0 + t) (Or.inl (by omega))]
  exact f2 t ht
