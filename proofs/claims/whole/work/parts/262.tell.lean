def cT (st : Nat → Int32) (k s : Nat) : Nat := ct (fun j => decide ((st j).toNatClampNeg = s)) k
/-- what a made block tells: the class's items, the reference's steps -/
def ti (k : Nat) (it mo cc st sm sc : Nat → Int32) : Prop := (∀ j, j < k → ∃ s, s < 19 ∧ it j = nI s ∧ st j = nI s ∧ mo j = sm j) ∧ (∀ s, s < 19 → cc s = nI (cT st k s) ∧ sc s = nI (cT st k s))
theorem ti_add {k s : Nat} {it mo cc st sm sc : Nat → Int32} {v : Int32} (hs : s < 19) (hk : k < 316) (h : ti k it mo cc st sm sc) :
    ∃ it' mo' cc' st' sm' sc', ti (k + 1) it' mo' cc' st' sm' sc' ∧ g_Tale_addItem_0 316 316 19 (nI s) v it mo (nI k) cc = some (it', mo', nI (k + 1), cc') ∧ g_Mo_tell_0 320 320 19 (nI s) v st sm (nI k) sc = some (st', sm', nI (k + 1), sc') := by
  refine ⟨upd it k (nI s), upd mo k v, upd cc s (cc s + 1), upd st k (nI s), upd sm k v, upd sc s (sc s + 1), ⟨fun j hj => ?_, fun t ht => ?_⟩, ?_, ?_⟩
  · by_cases c : j = k
    · subst c; rw [pk_us, pk_us, pk_us, pk_us]; exact ⟨s, hs, rfl, rfl, rfl⟩
    · rw [pk_un c, pk_un c, pk_un c, pk_un c]; exact h.1 j (by omega)
  · have e : cT (upd st k (nI s)) (k + 1) t = cT st k t + (if s = t then 1 else 0) := by
      unfold cT
      rw [ct_s, pk_us, nI_clamp (n := s) (by omega), ct_ext k (fun j hj => by rw [pk_un (by omega)])]
      simp only [decide_eq_true_eq]
    obtain ⟨a, b⟩ := h.2 t ht
    rw [e]
    by_cases c : t = s
    · subst c; rw [pk_us, pk_us, a, b, nI_1, if_pos rfl]; exact ⟨rfl, rfl⟩
    · rw [pk_un c, pk_un c, a, b, if_neg (fun z => c z.symm), Nat.add_zero]; exact ⟨rfl, rfl⟩
  · rw [g_Tale_addItem_0, if_neg (show ¬ Int32.ofNat 316 ≤ nI k from nI_ge (b := 316) hk (by omega)), if_neg (nI_in (by omega) (by omega)), if_neg (nI_in (by omega) (by omega)), if_neg (nI_in (by omega) (by omega)), nI_clamp (n := k) (by omega), nI_clamp (n := s) (by omega), nI_1]
  · rw [g_Mo_tell_0, if_neg (nI_in (by omega) (by omega)), if_neg (nI_in (by omega) (by omega)), if_neg (nI_in (by omega) (by omega)), nI_clamp (n := k) (by omega), nI_clamp (n := s) (by omega), nI_1]
theorem mn {a t : Nat} (ha : a < 2 ^ 31) (ht : t < 2 ^ 31) : (if nI a < nI t then nI a else nI t) = nI (if a < t then a else t) := by
  by_cases c : a < t
  · rw [if_pos c, if_pos (nI_lt c ht)]
  · rw [if_neg c, if_neg (nI_nlt (by omega) (by omega))]
theorem by18 {x1 x2 : Int32} {N : Nat} {K : Int32 → Int32 → Int32 → (Nat → Int32) → (Nat → Int32) → (Nat → Int32) → Option (Int32 × (Nat → Int32) × (Nat → Int32) × (Nat → Int32))} : ∀ (d t k : Nat) (it mo cc st sm sc : Nat → Int32) (M M' : Nat), t ≤ d → d < M → d < M' → k + t ≤ 316 → ti k it mo cc st sm sc →
    ∃ (t' k' M2 : Nat) (it' mo' cc' st' sm' sc' : Nat → Int32), t' < 11 ∧ k' + t' ≤ k + t ∧ ti k' it' mo' cc' st' sm' sc' ∧ g_Tale_tellBy_L1 316 316 19 M 18 138 11 (nI t) it mo (nI k) cc = some (nI t', it', mo', nI k', cc') ∧
      g_Mo_tellRow_L4 N 19 320 320 K M' x1 x2 0 (nI t) (nI k) sc st sm = g_Mo_tellRow_L4 N 19 320 320 K (M2 + 1) x1 x2 0 (nI t') (nI k') sc' st' sm' := by
  intro d
  induction d with
  | zero =>
    intro t k it mo cc st sm sc M M' ht hM hM' hk h
    obtain ⟨q, rfl⟩ := succ_of hM
    obtain ⟨q', rfl⟩ := succ_of hM'
    refine ⟨t, k, q', it, mo, cc, st, sm, sc, by omega, Nat.le_refl _, h, ?_, rfl⟩
    rw [g_Tale_tellBy_L1, if_pos (show nI t < (11 : Int32) from nI_lt (b := 11) (by omega) (by omega))]
  | succ d ih =>
    intro t k it mo cc st sm sc M M' ht hM hM' hk h
    obtain ⟨q, rfl⟩ := succ_of hM
    obtain ⟨q', rfl⟩ := succ_of hM'
    by_cases c : t < 11
    · refine ⟨t, k, q', it, mo, cc, st, sm, sc, c, Nat.le_refl _, h, ?_, rfl⟩
      rw [g_Tale_tellBy_L1, if_pos (show nI t < (11 : Int32) from nI_lt (b := 11) (by omega) (by omega))]
    · have hmn : 11 ≤ (if 138 < t then 138 else t) ∧ (if 138 < t then 138 else t) ≤ t := by split <;> omega
      obtain ⟨it1, mo1, cc1, st1, sm1, sc1, a1, a2, a3⟩ := ti_add (s := 18) (v := nI ((if 138 < t then 138 else t) - 11)) (by decide) (show k < 316 by omega) h
      obtain ⟨t', k', M2, it', mo', cc', st', sm', sc', b1, b2, b3, b4, b5⟩ := ih (t - (if 138 < t then 138 else t)) (k + 1) it1 mo1 cc1 st1 sm1 sc1 q q' (by omega) (by omega) (by omega) (by omega) a1
      refine ⟨t', k', M2, it', mo', cc', st', sm', sc', b1, by omega, b3, ?_, ?_⟩
      · rw [g_Tale_tellBy_L1, if_neg (show ¬ nI t < (11 : Int32) from nI_nlt (b := 11) (by omega) (by omega)), z_138, mn (by omega) (by omega), z_11, pk_sub hmn.1, pk_sub hmn.2]
        have a2' : g_Tale_addItem_0 316 316 19 18 (nI ((if 138 < t then 138 else t) - 11)) it mo (nI k) cc = some (it1, mo1, nI (k + 1), cc1) := a2
        rw [a2', Option.bind_some]
        exact b4
      · have key : g_Mo_tellRow_L4 N 19 320 320 K (q' + 1) x1 x2 0 (nI t) (nI k) sc st sm = g_Mo_tellRow_J2 19 320 320 (g_Mo_tellRow_L4 N 19 320 320 K q') x1 x2 0 (nI t) (nI (if 138 < t then 138 else t)) (nI k) sc st sm := by
          rw [g_Mo_tellRow_L4, if_neg (show ¬ nI t < (11 : Int32) from nI_nlt (b := 11) (by omega) (by omega))]
          by_cases z : 138 < t
          · rw [if_pos (show (138 : Int32) ≤ nI t from nI_le (a := 138) (by omega) (by omega)), if_pos z]; rfl
          · rw [if_neg z]
            by_cases y : t = 138
            · rw [if_pos (show (138 : Int32) ≤ nI t from nI_le (a := 138) (by omega) (by omega)), y]; rfl
            · rw [if_neg (show ¬ (138 : Int32) ≤ nI t from nI_ge (b := 138) (by omega) (by omega))]
        have a3' : g_Mo_tell_0 320 320 19 18 (nI ((if 138 < t then 138 else t) - 11)) st sm (nI k) sc = some (st1, sm1, nI (k + 1), sc1) := a3
        rw [key, g_Mo_tellRow_J2, z_11, pk_sub hmn.1, pk_sub hmn.2, a3', Option.bind_some]
        exact b5
theorem by16 {x1 x2 x3 : Int32} {N : Nat} {K : Int32 → Int32 → Int32 → (Nat → Int32) → (Nat → Int32) → (Nat → Int32) → Option (Int32 × (Nat → Int32) × (Nat → Int32) × (Nat → Int32))} : ∀ (d t k : Nat) (it mo cc st sm sc : Nat → Int32) (M M' : Nat), t ≤ d → d < M → d < M' → k + t ≤ 316 → ti k it mo cc st sm sc →
    ∃ (t' k' : Nat) (it' mo' cc' st' sm' sc' : Nat → Int32), t' < 3 ∧ k' + t' ≤ k + t ∧ ti k' it' mo' cc' st' sm' sc' ∧ g_Tale_tellBy_L1 316 316 19 M 16 6 3 (nI t) it mo (nI k) cc = some (nI t', it', mo', nI k', cc') ∧
      g_Mo_tellRow_L5 N 19 320 320 K M' x1 x2 x3 (nI t) (nI k) sc st sm = g_Mo_tellRow_L6 19 320 320 K N x1 x2 x3 (nI t') (nI k') sc' st' sm' := by
  have stop : ∀ (t k : Nat) (it mo cc st sm sc : Nat → Int32) (q q' : Nat), t < 3 → g_Tale_tellBy_L1 316 316 19 (q + 1) 16 6 3 (nI t) it mo (nI k) cc = some (nI t, it, mo, nI k, cc) ∧ g_Mo_tellRow_L5 N 19 320 320 K (q' + 1) x1 x2 x3 (nI t) (nI k) sc st sm = g_Mo_tellRow_L6 19 320 320 K N x1 x2 x3 (nI t) (nI k) sc st sm := by
    intro t k it mo cc st sm sc q q' ht
    refine ⟨?_, ?_⟩
    · rw [g_Tale_tellBy_L1, if_pos (show nI t < (3 : Int32) from nI_lt (b := 3) ht (by omega))]
    · rw [g_Mo_tellRow_L5, if_pos (show nI t < (3 : Int32) from nI_lt (b := 3) ht (by omega))]
  intro d
  induction d with
  | zero =>
    intro t k it mo cc st sm sc M M' ht hM hM' hk h
    obtain ⟨q, rfl⟩ := succ_of hM
    obtain ⟨q', rfl⟩ := succ_of hM'
    obtain ⟨s1, s2⟩ := stop t k it mo cc st sm sc q q' (by omega)
    exact ⟨t, k, it, mo, cc, st, sm, sc, by omega, Nat.le_refl _, h, s1, s2⟩
  | succ d ih =>
    intro t k it mo cc st sm sc M M' ht hM hM' hk h
    obtain ⟨q, rfl⟩ := succ_of hM
    obtain ⟨q', rfl⟩ := succ_of hM'
    by_cases c : t < 3
    · obtain ⟨s1, s2⟩ := stop t k it mo cc st sm sc q q' c
      exact ⟨t, k, it, mo, cc, st, sm, sc, c, Nat.le_refl _, h, s1, s2⟩
    · have hmn : 3 ≤ (if 6 < t then 6 else t) ∧ (if 6 < t then 6 else t) ≤ t := by split <;> omega
      obtain ⟨it1, mo1, cc1, st1, sm1, sc1, a1, a2, a3⟩ := ti_add (s := 16) (v := nI ((if 6 < t then 6 else t) - 3)) (by decide) (show k < 316 by omega) h
      obtain ⟨t', k', it', mo', cc', st', sm', sc', b1, b2, b3, b4, b5⟩ := ih (t - (if 6 < t then 6 else t)) (k + 1) it1 mo1 cc1 st1 sm1 sc1 q q' (by omega) (by omega) (by omega) (by omega) a1
      refine ⟨t', k', it', mo', cc', st', sm', sc', b1, by omega, b3, ?_, ?_⟩
      · rw [g_Tale_tellBy_L1, if_neg (show ¬ nI t < (3 : Int32) from nI_nlt (b := 3) (by omega) (by omega)), z_6, mn (by omega) (by omega), z_3, pk_sub hmn.1, pk_sub hmn.2]
        have a2' : g_Tale_addItem_0 316 316 19 16 (nI ((if 6 < t then 6 else t) - 3)) it mo (nI k) cc = some (it1, mo1, nI (k + 1), cc1) := a2
        rw [a2', Option.bind_some]
        exact b4
      · have key : g_Mo_tellRow_L5 N 19 320 320 K (q' + 1) x1 x2 x3 (nI t) (nI k) sc st sm = g_Mo_tellRow_J3 19 320 320 (g_Mo_tellRow_L5 N 19 320 320 K q') x1 x2 x3 (nI t) (nI (if 6 < t then 6 else t)) (nI k) sc st sm := by
          rw [g_Mo_tellRow_L5, if_neg (show ¬ nI t < (3 : Int32) from nI_nlt (b := 3) (by omega) (by omega))]
          by_cases z : 6 < t
          · rw [if_pos (show (6 : Int32) ≤ nI t from nI_le (a := 6) (by omega) (by omega)), if_pos z]; rfl
          · rw [if_neg z]
            by_cases y : t = 6
            · rw [if_pos (show (6 : Int32) ≤ nI t from nI_le (a := 6) (by omega) (by omega)), y]; rfl
            · rw [if_neg (show ¬ (6 : Int32) ≤ nI t from nI_ge (b := 6) (by omega) (by omega))]
        have a3' : g_Mo_tell_0 320 320 19 16 (nI ((if 6 < t then 6 else t) - 3)) st sm (nI k) sc = some (st1, sm1, nI (k + 1), sc1) := a3
        rw [key, g_Mo_tellRow_J3, z_3, pk_sub hmn.1, pk_sub hmn.2, a3', Option.bind_some]
        exact b5
theorem rest_ok {x1 x2 : Int32} {x L : Nat} {K : Int32 → Int32 → Int32 → (Nat → Int32) → (Nat → Int32) → (Nat → Int32) → Option (Int32 × (Nat → Int32) × (Nat → Int32) × (Nat → Int32))} (hx : x < 19) (hL : L ≤ 316) : ∀ (d i k : Nat) (it mo cc st sm sc : Nat → Int32) (M M' : Nat), i + d = L → d < M → d < M' → k + d ≤ 316 → ti k it mo cc st sm sc →
    ∃ (it' mo' cc' st' sm' sc' : Nat → Int32), ti (k + d) it' mo' cc' st' sm' sc' ∧ g_Tale_tellStretch_L1 316 316 19 M (nI x) (nI L) (nI i) it mo (nI k) cc = some (it', mo', nI (k + d), cc') ∧ g_Mo_tellRow_L6 19 320 320 K M' x1 x2 (nI x) (nI d) (nI k) sc st sm = K x1 x2 (nI (k + d)) sc' st' sm' := by
  intro d
  induction d with
  | zero =>
    intro i k it mo cc st sm sc M M' hi hM hM' hk h
    obtain ⟨q, rfl⟩ := succ_of hM
    obtain ⟨q', rfl⟩ := succ_of hM'
    refine ⟨it, mo, cc, st, sm, sc, h, ?_, ?_⟩
    · rw [g_Tale_tellStretch_L1, if_pos (nI_le (by omega) (by omega))]; rfl
    · rw [g_Mo_tellRow_L6, if_pos (by decide)]; rfl
  | succ d ih =>
    intro i k it mo cc st sm sc M M' hi hM hM' hk h
    obtain ⟨q, rfl⟩ := succ_of hM
    obtain ⟨q', rfl⟩ := succ_of hM'
    obtain ⟨it1, mo1, cc1, st1, sm1, sc1, a1, a2, a3⟩ := ti_add (s := x) (v := 0) hx (show k < 316 by omega) h
    obtain ⟨it', mo', cc', st', sm', sc', b1, b2, b3⟩ := ih (i + 1) (k + 1) it1 mo1 cc1 st1 sm1 sc1 q q' (by omega) (by omega) (by omega) (by omega) a1
    rw [show k + (d + 1) = k + 1 + d by omega]
    refine ⟨it', mo', cc', st', sm', sc', b1, ?_, ?_⟩
    · rw [g_Tale_tellStretch_L1, if_neg (nI_ge (by omega) (by omega)), a2, Option.bind_some, nI_1]
      exact b2
    · rw [g_Mo_tellRow_L6, if_neg (nI_nle (by omega) (by omega)), a3, Option.bind_some, pk_m1]
      exact b3
/-- one stretch of the row -/
theorem sim_stretch {N x t k at_ n : Nat} {it mo cc st sm sc : Nat → Int32} {K : Int32 → Int32 → Int32 → (Nat → Int32) → (Nat → Int32) → (Nat → Int32) → Option (Int32 × (Nat → Int32) × (Nat → Int32) × (Nat → Int32))} (hN : 100000 ≤ N) (hx : x < 16) (ht : 1 ≤ t) (hk : k + t ≤ 316) (h : ti k it mo cc st sm sc) :
    ∃ (k' : Nat) (it' mo' cc' st' sm' sc' : Nat → Int32), k' ≤ k + t ∧ ti k' it' mo' cc' st' sm' sc' ∧ g_Tale_tellStretch_0 N 316 316 19 (nI x) (nI t) it mo (nI k) cc = some (it', mo', nI k', cc') ∧
      g_Mo_tellRow_J1 N 19 320 320 K (nI n) (nI at_) (nI x) (nI t) (nI k) sc st sm = K (nI n) (nI (at_ + t)) (nI k') sc' st' sm' := by
  rw [g_Tale_tellStretch_0, g_Mo_tellRow_J1, nI_add]
  have l18 : g_Bp_leastOfTold_0 18 = some 11 := by decide
  have l17 : g_Bp_leastOfTold_0 17 = some 3 := by decide
  have l16 : g_Bp_leastOfTold_0 16 = some 3 := by decide
  by_cases c : x = 0
  · subst c
    rw [if_pos (show nI 0 = 0 from rfl), if_pos (show nI 0 = 0 from rfl)]
    obtain ⟨t1, k1, M2, it1, mo1, cc1, st1, sm1, sc1, a1, a2, a3, a4, a5⟩ := by18 (x1 := nI n) (x2 := nI (at_ + t)) (N := N) (K := K) t t k it mo cc st sm sc N N (Nat.le_refl _) (by omega) (by omega) hk h
    have a5' : g_Mo_tellRow_L4 N 19 320 320 K N (nI n) (nI (at_ + t)) (nI 0) (nI t) (nI k) sc st sm = g_Mo_tellRow_L4 N 19 320 320 K (M2 + 1) (nI n) (nI (at_ + t)) 0 (nI t1) (nI k1) sc1 st1 sm1 := a5
    rw [g_Tale_tellBy_0, l18, Option.bind_some, a4, Option.bind_some, a5']
    dsimp only
    rw [g_Tale_tellBy_0, l17, Option.bind_some, g_Mo_tellRow_L4, if_pos (show nI t1 < (11 : Int32) from nI_lt (b := 11) a1 (by omega))]
    obtain ⟨q, rfl⟩ := succ_of (show 0 < N by omega)
    by_cases c2 : t1 < 3
    · rw [g_Tale_tellBy_L1, if_pos (show nI t1 < (3 : Int32) from nI_lt (b := 3) c2 (by omega)), Option.bind_some, if_pos (show nI t1 < (3 : Int32) from nI_lt (b := 3) c2 (by omega))]
      dsimp only
      obtain ⟨it', mo', cc', st', sm', sc', b1, b2, b3⟩ := rest_ok (x1 := nI n) (x2 := nI (at_ + t)) (x := 0) (L := t1) (K := K) (by decide) (by omega) t1 0 k1 it1 mo1 cc1 st1 sm1 sc1 (q + 1) (q + 1) (by omega) (by omega) (by omega) (by omega) a3
      exact ⟨k1 + t1, it', mo', cc', st', sm', sc', by omega, b1, b2, b3⟩
    · obtain ⟨it2, mo2, cc2, st2, sm2, sc2, d1, d2, d3⟩ := ti_add (s := 17) (v := nI (t1 - 3)) (by decide) (show k1 < 316 by omega) a3
      have d2' : g_Tale_addItem_0 316 316 19 17 (nI (t1 - 3)) it1 mo1 (nI k1) cc1 = some (it2, mo2, nI (k1 + 1), cc2) := d2
      have d3' : g_Mo_tell_0 320 320 19 17 (nI (t1 - 3)) st1 sm1 (nI k1) sc1 = some (st2, sm2, nI (k1 + 1), sc2) := d3
      have e17 : g_Tale_tellBy_L1 316 316 19 (q + 1) 17 10 3 (nI t1) it1 mo1 (nI k1) cc1 = some (nI 0, it2, mo2, nI (k1 + 1), cc2) := by
        obtain ⟨q2, rfl⟩ := succ_of (show 0 < q by omega)
        rw [g_Tale_tellBy_L1, if_neg (show ¬ nI t1 < (3 : Int32) from nI_nlt (b := 3) (by omega) (by omega)), z_10, mn (by omega) (by omega), if_neg (show ¬ 10 < t1 by omega), z_3, pk_sub (by omega), pk_sub (Nat.le_refl _), d2', Option.bind_some]
        dsimp only
        rw [Nat.sub_self, g_Tale_tellBy_L1, if_pos (by decide)]
      rw [e17, Option.bind_some, if_neg (show ¬ nI t1 < (3 : Int32) from nI_nlt (b := 3) (by omega) (by omega)), z_3, pk_sub (by omega), d3', Option.bind_some]
      dsimp only
      obtain ⟨it', mo', cc', st', sm', sc', b1, b2, b3⟩ := rest_ok (x1 := nI n) (x2 := nI (at_ + t)) (x := 0) (L := 0) (K := K) (by decide) (by omega) 0 0 (k1 + 1) it2 mo2 cc2 st2 sm2 sc2 (q + 1) (q + 1) (by omega) (by omega) (by omega) (by omega) d1
      exact ⟨k1 + 1 + 0, it', mo', cc', st', sm', sc', by omega, b1, b2, b3⟩
  · have nx : ¬ nI x = 0 := nI_ne0 (by omega) (by omega)
    obtain ⟨it1, mo1, cc1, st1, sm1, sc1, a1, a2, a3⟩ := ti_add (s := x) (v := 0) (by omega) (show k < 316 by omega) h
    obtain ⟨t', ht'⟩ : ∃ t', t = t' + 1 := ⟨t - 1, by omega⟩
    subst ht'
    rw [if_neg nx, if_neg nx, a2, Option.bind_some, a3, Option.bind_some, nI_pred, pk_m1]
    dsimp only
    obtain ⟨t1, k1, it2, mo2, cc2, st2, sm2, sc2, d1, d2, d3, d4, d5⟩ := by16 (x1 := nI n) (x2 := nI (at_ + (t' + 1))) (x3 := nI x) (N := N) (K := K) t' t' (k + 1) it1 mo1 cc1 st1 sm1 sc1 N N (Nat.le_refl _) (by omega) (by omega) (by omega) a1
    rw [g_Tale_tellBy_0, l16, Option.bind_some, d4, Option.bind_some, d5]
    dsimp only
    obtain ⟨it', mo', cc', st', sm', sc', b1, b2, b3⟩ := rest_ok (x1 := nI n) (x2 := nI (at_ + (t' + 1))) (x := x) (L := t1) (K := K) (by omega) (by omega) t1 0 k1 it2 mo2 cc2 st2 sm2 sc2 N N (by omega) (by omega) (by omega) (by omega) d3
    exact ⟨k1 + t1, it', mo', cc', st', sm', sc', by omega, b1, b2, b3⟩
theorem row_loop {N n : Nat} {rc_ rr_ : Nat → Int32} {x : Nat → Nat} (hN : 100000 ≤ N) (hn : n ≤ 316) (hr : ∀ j, j < n → rc_ j = nI (x j) ∧ rr_ j = nI (x j) ∧ x j < 16) : ∀ (d fr i k : Nat) (it mo cc st sm sc : Nat → Int32) (M M2 M3 : Nat), i + d = n → fr < i → k ≤ fr → d + 1 < M → d < M2 → d < M3 → (∀ j, fr ≤ j → j < i → x j = x fr) → ti k it mo cc st sm sc →
    ∃ (k' : Nat) (it' mo' cc' st' sm' sc' : Nat → Int32), k' ≤ n ∧ ti k' it' mo' cc' st' sm' sc' ∧ g_Tale_tellRow_L1 N 19 316 rc_ 316 316 M (nI n) (nI fr) (nI i) (nI k) cc it mo = some (nI k', cc', it', mo') ∧
      g_Mo_tellRow_L3 N 19 320 rr_ 320 320 (g_Mo_tellRow_L2 N 19 320 rr_ 320 320 M2) M3 (nI n) (nI fr) (nI (x fr)) (nI (i - fr)) (nI k) sc st sm = some (nI k', sc', st', sm') := by
  intro d
  induction d with
  | zero =>
    intro fr i k it mo cc st sm sc M M2 M3 hi hf hk hM hM2 hM3 hx h
    obtain ⟨q, rfl⟩ := succ_of (show 0 < M by omega)
    obtain ⟨q2, rfl⟩ := succ_of hM2
    obtain ⟨q3, rfl⟩ := succ_of hM3
    have ei : i = n := by omega
    subst ei
    obtain ⟨r1, r2, r3⟩ := hr fr hf
    obtain ⟨k', it', mo', cc', st', sm', sc', b1, b2, b3, b4⟩ := sim_stretch (x := x fr) (t := i - fr) (at_ := fr) (n := i) (K := g_Mo_tellRow_L2 N 19 320 rr_ 320 320 (q2 + 1)) hN r3 (by omega) (by omega) h
    refine ⟨k', it', mo', cc', st', sm', sc', by omega, b2, ?_, ?_⟩
    · rw [g_Tale_tellRow_L1, if_neg (nI_nlt (Nat.le_refl _) (by omega)), if_pos rfl, g_Tale_tellRow_J1, if_neg (nI_in (by omega) (by omega)), nI_clamp (n := fr) (by omega), r1, pk_sub (by omega), b3, Option.bind_some]
      dsimp only
      obtain ⟨q4, rfl⟩ := succ_of (show 0 < q by omega)
      rw [nI_1, g_Tale_tellRow_L1, if_pos (nI_lt (by omega) (by omega))]
    · rw [g_Mo_tellRow_L3, nI_add, show fr + (i - fr) = i by omega, if_pos (nI_le (Nat.le_refl _) (by omega)), b4, g_Mo_tellRow_L2, show fr + (i - fr) = i by omega, if_pos (nI_le (Nat.le_refl _) (by omega))]
  | succ d ih =>
    intro fr i k it mo cc st sm sc M M2 M3 hi hf hk hM hM2 hM3 hx h
    obtain ⟨q, rfl⟩ := succ_of (show 0 < M by omega)
    obtain ⟨q2, rfl⟩ := succ_of hM2
    obtain ⟨q3, rfl⟩ := succ_of hM3
    obtain ⟨r1, r2, r3⟩ := hr fr (by omega)
    obtain ⟨p1, p2, p3⟩ := hr i (by omega)
    rw [g_Tale_tellRow_L1, if_neg (nI_nlt (by omega) (by omega)), if_neg (by rw [nI_eq (by omega) (by omega)]; omega), if_neg (nI_in (by omega) (by omega)), if_neg (nI_in (by omega) (by omega)), nI_clamp (n := fr) (by omega), nI_clamp (n := i) (by omega), r1, p1]
    rw [g_Mo_tellRow_L3, nI_add, show fr + (i - fr) = i by omega, if_neg (nI_ge (by omega) (by omega)), if_neg (nI_in (by omega) (by omega)), nI_clamp (n := i) (by omega), p2]
    by_cases c : x i = x fr
    · rw [if_pos (by rw [c]), if_pos (by rw [c]), nI_1, nI_1, show i - fr + 1 = i + 1 - fr by omega]
      exact ih fr (i + 1) k it mo cc st sm sc q (q2 + 1) q3 (by omega) (by omega) hk (by omega) (by omega) (by omega) (fun j h1 h2 => by
        by_cases z : j = i
        · rw [z, c]
        · exact hx j h1 (by omega)) h
    · have nc : ¬ nI (x i) = nI (x fr) := by rw [nI_eq (by omega) (by omega)]; exact c
      obtain ⟨k1, it1, mo1, cc1, st1, sm1, sc1, b1, b2, b3, b4⟩ := sim_stretch (x := x fr) (t := i - fr) (at_ := fr) (n := n) (K := g_Mo_tellRow_L2 N 19 320 rr_ 320 320 (q2 + 1)) hN r3 (by omega) (by omega) h
      obtain ⟨k', it', mo', cc', st', sm', sc', d1, d2, d3, d4⟩ := ih i (i + 1) k1 it1 mo1 cc1 st1 sm1 sc1 q q2 (N - 1) (by omega) (by omega) (by omega) (by omega) (by omega) (by omega) (fun j h1 h2 => by rw [show j = i by omega]) b2
      rw [if_neg nc, if_neg nc]
      refine ⟨k', it', mo', cc', st', sm', sc', d1, d2, ?_, ?_⟩
      · rw [g_Tale_tellRow_J1, if_neg (nI_in (by omega) (by omega)), nI_clamp (n := fr) (by omega), r1, pk_sub (by omega), b3, Option.bind_some]
        dsimp only
        rw [nI_1]
        exact d3
      · rw [b4, show fr + (i - fr) = i by omega, g_Mo_tellRow_L2, if_neg (nI_ge (by omega) (by omega)), if_neg (nI_in (by omega) (by omega)), nI_clamp (n := i) (by omega), p2]
        have eN : N = N - 1 + 1 := by omega
        have key : ∀ (V : Int32), g_Mo_tellRow_L3 N 19 320 rr_ 320 320 (g_Mo_tellRow_L2 N 19 320 rr_ 320 320 q2) (N - 1 + 1) (nI n) (nI i) (nI (x i)) 0 V sc1 st1 sm1 = g_Mo_tellRow_L3 N 19 320 rr_ 320 320 (g_Mo_tellRow_L2 N 19 320 rr_ 320 320 q2) (N - 1) (nI n) (nI i) (nI (x i)) (nI 1) V sc1 st1 sm1 := by
          intro V
          rw [g_Mo_tellRow_L3, z_0, nI_add, Nat.add_zero, if_neg (nI_ge (by omega) (by omega)), ← z_0, if_neg (nI_in (by omega) (by omega)), nI_clamp (n := i) (by omega), p2, if_pos rfl]
          rfl
        rw [show i + 1 - i = 1 by omega] at d4
        rw [← d4, ← key]
        congr 1
theorem tz_loop {N n : Nat} {rr_ st sm : Nat → Int32} {v0 : Int32} : ∀ (d k : Nat) (sc : Nat → Int32) (M : Nat), k + d = 19 → d < M → (∀ j, j < k → sc j = 0) → ∃ sc', (∀ j, j < 19 → sc' j = 0) ∧ g_Mo_tellRow_L1 N 19 320 rr_ 320 320 M (nI n) (nI k) v0 sc st sm = g_Mo_tellRow_L2 N 19 320 rr_ 320 320 N (nI n) 0 v0 sc' st sm := by
  intro d
  induction d with
  | zero =>
    intro k sc M hk hM h
    obtain ⟨q, rfl⟩ := succ_of hM
    refine ⟨sc, fun j hj => h j (by omega), ?_⟩
    rw [g_Mo_tellRow_L1, if_pos (show (19 : Int32) ≤ nI k from nI_le (a := 19) (by omega) (by omega))]
  | succ d ih =>
    intro k sc M hk hM h
    obtain ⟨q, rfl⟩ := succ_of hM
    rw [g_Mo_tellRow_L1, if_neg (show ¬ (19 : Int32) ≤ nI k from nI_ge (b := 19) (by omega) (by omega)), if_neg (nI_in (by omega) (by omega)), nI_clamp (n := k) (by omega), nI_1]
    refine ih (k + 1) _ q (by omega) (by omega) (fun j hj => ?_)
    by_cases c : j = k
    · subst c; rw [pk_us]
    · rw [pk_un c]; exact h j (by omega)
/-- the whole row -/
theorem sim_row {N n : Nat} {rc_ rr_ it mo cc st sm sc : Nat → Int32} {x : Nat → Nat} {v0 v1 : Int32} (hN : 100000 ≤ N) (h1 : 1 ≤ n) (hn : n ≤ 316) (hr : ∀ j, j < n → rc_ j = nI (x j) ∧ rr_ j = nI (x j) ∧ x j < 16) :
    ∃ (k' : Nat) (it' mo' cc' st' sm' sc' : Nat → Int32), k' ≤ n ∧ ti k' it' mo' cc' st' sm' sc' ∧ g_Tale_tellRow_0 N 19 316 rc_ 316 316 (nI n) v0 cc it mo = some (nI k', cc', it', mo') ∧ g_Mo_tellRow_0 N 19 320 rr_ 320 320 (nI n) v1 sc st sm = some (nI k', sc', st', sm') := by
  obtain ⟨cc0, e1, z1⟩ := fill2_ok (n0 := 19) (v := 0) (f := cc) (N := N) (by omega) hN
  obtain ⟨sc0, z2, e2⟩ := tz_loop (N := N) (n := n) (rr_ := rr_) (st := st) (sm := sm) (v0 := 0) 19 0 sc N (by omega) (by omega) (fun j hj => by omega)
  have e2' : g_Mo_tellRow_L1 N 19 320 rr_ 320 320 N (nI n) 0 0 sc st sm = g_Mo_tellRow_L2 N 19 320 rr_ 320 320 N (nI n) 0 0 sc0 st sm := e2
  have h0 : ti 0 it mo cc0 st sm sc0 := ⟨fun j hj => by omega, fun s hs => ⟨z1 s hs, z2 s hs⟩⟩
  obtain ⟨k', it', mo', cc', st', sm', sc', d1, d2, d3, d4⟩ := row_loop hN hn hr (n - 1) 0 1 0 it mo cc0 st sm sc0 N (N - 1) (N - 1) (by omega) (by omega) (by omega) (by omega) (by omega) (by omega) (fun j a b => by rw [show j = 0 by omega]) h0
  obtain ⟨p1, p2, p3⟩ := hr 0 (by omega)
  refine ⟨k', it', mo', cc', st', sm', sc', d1, d2, ?_, ?_⟩
  · rw [g_Tale_tellRow_0, e1, Option.bind_some]
    exact d3
  · have c0 : (0 : Int32).toNatClampNeg = 0 := by decide
    rw [g_Mo_tellRow_0, e2']
    have key : g_Mo_tellRow_L2 N 19 320 rr_ 320 320 (N - 1 + 1) (nI n) 0 0 sc0 st sm = g_Mo_tellRow_L3 N 19 320 rr_ 320 320 (g_Mo_tellRow_L2 N 19 320 rr_ 320 320 (N - 1)) (N - 1 + 1) (nI n) 0 (nI (x 0)) 0 0 sc0 st sm := by
      rw [g_Mo_tellRow_L2, if_neg (show ¬ nI n ≤ (0 : Int32) from nI_nle (by omega) (by omega)), if_neg (by decide), c0, p2, show N - 1 + 1 = N by omega]
    have key2 : g_Mo_tellRow_L3 N 19 320 rr_ 320 320 (g_Mo_tellRow_L2 N 19 320 rr_ 320 320 (N - 1)) (N - 1 + 1) (nI n) 0 (nI (x 0)) 0 0 sc0 st sm = g_Mo_tellRow_L3 N 19 320 rr_ 320 320 (g_Mo_tellRow_L2 N 19 320 rr_ 320 320 (N - 1)) (N - 1) (nI n) 0 (nI (x 0)) 1 0 sc0 st sm := by
      rw [g_Mo_tellRow_L3, show (0 : Int32) + 0 = 0 by decide, if_neg (show ¬ nI n ≤ (0 : Int32) from nI_nle (by omega) (by omega)), if_neg (by decide), c0, p2, if_pos rfl]
      rfl
    rw [show N - 1 + 1 = N by omega] at key key2
    rw [key, key2]
    exact d4
/-- up to the last length that is not 0 -/
def nd (f : Nat → Nat) (least : Nat) : Nat → Nat
  | 0 => least
  | d + 1 => if f (least + d) = 0 then nd f least d else least + d + 1
theorem nd_in (f : Nat → Nat) (least : Nat) : ∀ d, least ≤ nd f least d ∧ nd f least d ≤ least + d := by
  intro d
  induction d with
  | zero => exact ⟨Nat.le_refl _, Nat.le_refl _⟩
  | succ d ih =>
    show least ≤ (if f (least + d) = 0 then nd f least d else least + d + 1) ∧ (if f (least + d) = 0 then nd f least d else least + d + 1) ≤ least + (d + 1)
    split <;> omega
theorem need_cls {fl : Nat → Int32} {len : Nat → Nat} {least most n1 : Nat} (h : ∀ t, t < most → fl t = nI (len t) ∧ len t ≤ 15) (hn1 : most ≤ n1) (hb : n1 ≤ 1000) : ∀ (d i M : Nat), least + i + d = most → d < M → g_Tale_needed_L1 n1 fl M (nI most) (nI (nd len least i)) (nI (least + i)) = some (nI (nd len least (i + d))) := by
  intro d
  induction d with
  | zero =>
    intro i M hi hM
    obtain ⟨q, rfl⟩ := succ_of hM
    rw [g_Tale_needed_L1, if_pos (nI_le (by omega) (by omega)), Nat.add_zero]
  | succ d ih =>
    intro i M hi hM
    obtain ⟨q, rfl⟩ := succ_of hM
    obtain ⟨h1, h2⟩ := h (least + i) (by omega)
    have r := ih (i + 1) q (by omega) (by omega)
    rw [g_Tale_needed_L1, if_neg (nI_ge (by omega) (by omega)), if_neg (nI_in (by omega) (by omega)), nI_clamp (n := least + i) (by omega), h1, nI_1, show i + (d + 1) = i + 1 + d by omega, ← r]
    have e : nd len least (i + 1) = (if len (least + i) = 0 then nd len least i else least + i + 1) := rfl
    rw [e]
    by_cases c : len (least + i) = 0
    · rw [if_pos (by rw [c]; decide), if_pos c]; rfl
    · rw [if_neg (nI_nle (by omega) (by omega)), if_neg c]; rfl
theorem need_ref {to : Nat → Int32} {len : Nat → Nat} {least a n1 : Nat} (hl0 : 1 ≤ least) (ha : a ≤ 1000) (hl : least ≤ 1000) (hb : n1 ≤ 1000) : ∀ (d M : Nat), d ≤ 1000 → d < M → a + least + d ≤ n1 → (∀ t, t < least + d → to (a + t) = nI (len t) ∧ len t ≤ 15) → g_Mo_needed_L1 n1 to M (nI a) (nI least) (nI (least + d)) = some (nI (nd len least d)) := by
  intro d
  induction d with
  | zero =>
    intro M _ hM hn h
    obtain ⟨q, rfl⟩ := succ_of hM
    rw [g_Mo_needed_L1, if_pos (nI_le (by omega) (by omega))]; rfl
  | succ d ih =>
    intro M hd hM hn h
    obtain ⟨q, rfl⟩ := succ_of hM
    obtain ⟨h1, h2⟩ := h (least + d) (by omega)
    rw [g_Mo_needed_L1, if_neg (nI_ge (by omega) (by omega)), nI_add, show a + (least + (d + 1)) = a + (least + d) + 1 by omega, nI_pred, if_neg (nI_in (by omega) (by omega)), nI_clamp (n := a + (least + d)) (by omega), h1, show least + (d + 1) = least + d + 1 by omega, pk_m1]
    have e : nd len least (d + 1) = (if len (least + d) = 0 then nd len least d else least + d + 1) := rfl
    rw [e]
    by_cases c : len (least + d) = 0
    · rw [if_pos (by rw [c]; rfl), if_pos c]
      exact ih q (by omega) (by omega) (by omega) (fun t ht => h t (by omega))
    · rw [if_neg (nI_ne0 (by omega) (by omega)), if_neg c]
