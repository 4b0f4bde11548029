def okT (l v : Nat) : Prop := (l = 0 ∧ v < 256) ∨ (3 ≤ l ∧ l ≤ 258 ∧ 1 ≤ v ∧ v ≤ 8191)
/-- what was found: the class's items, the reference's tokens -/
def tk (k : Nat) (it A V : Nat → Int32) : Prop := ∀ t, t < k → ∃ l v, okT l v ∧ it t = nI (l * 65536 + v) ∧ A t = nI l ∧ V t = nI v
def tS (A V : Nat → Int32) (t : Nat) : Nat := if A t = 0 then (V t).toNatClampNeg else lS (A t).toNatClampNeg
def tD (A V : Nat → Int32) (t : Nat) : Nat := if A t = 0 then 99 else dS (V t).toNatClampNeg
def cS (A V : Nat → Int32) (k s : Nat) : Nat := ct (fun t => decide (tS A V t = s)) k + (if s = 256 then 1 else 0)
def cD (A V : Nat → Int32) (k d : Nat) : Nat := ct (fun t => decide (tD A V t = d)) k
def ks (sc dc A V : Nat → Int32) (k : Nat) : Prop := (∀ s, s < 286 → sc s = nI (cS A V k s)) ∧ (∀ d, d < 30 → dc d = nI (cD A V k d))
theorem ct_upd {A V A' V' : Nat → Int32} {k : Nat} {P : (Nat → Int32) → (Nat → Int32) → Nat → Bool} (hP : ∀ A V A' V' t, A t = A' t → V t = V' t → P A V t = P A' V' t) (hA : ∀ t, t < k → A' t = A t) (hV : ∀ t, t < k → V' t = V t) : ct (P A' V') (k + 1) = ct (P A V) k + (if P A' V' k = true then 1 else 0) := by
  rw [ct_s, ct_ext k (fun t ht => hP A' V' A V t (hA t ht) (hV t ht))]
theorem tS_loc (A V A' V' : Nat → Int32) (t : Nat) (h1 : A t = A' t) (h2 : V t = V' t) : tS A V t = tS A' V' t := by unfold tS; rw [h1, h2]
theorem tD_loc (A V A' V' : Nat → Int32) (t : Nat) (h1 : A t = A' t) (h2 : V t = V' t) : tD A V t = tD A' V' t := by unfold tD; rw [h1, h2]
theorem cS_upd {A V : Nat → Int32} {k : Nat} (a v : Int32) (s : Nat) : cS (upd A k a) (upd V k v) (k + 1) s = cS A V k s + (if tS (upd A k a) (upd V k v) k = s then 1 else 0) := by
  unfold cS
  rw [ct_upd (P := fun A V t => decide (tS A V t = s)) (A := A) (V := V) (A' := upd A k a) (V' := upd V k v) (fun A V A' V' t h1 h2 => by rw [tS_loc A V A' V' t h1 h2]) (fun t ht => pk_un (by omega)) (fun t ht => pk_un (by omega))]
  simp only [decide_eq_true_eq]
  omega
theorem cD_upd {A V : Nat → Int32} {k : Nat} (a v : Int32) (d : Nat) : cD (upd A k a) (upd V k v) (k + 1) d = cD A V k d + (if tD (upd A k a) (upd V k v) k = d then 1 else 0) := by
  unfold cD
  rw [ct_upd (P := fun A V t => decide (tD A V t = d)) (A := A) (V := V) (A' := upd A k a) (V' := upd V k v) (fun A V A' V' t h1 h2 => by rw [tD_loc A V A' V' t h1 h2]) (fun t ht => pk_un (by omega)) (fun t ht => pk_un (by omega))]
  simp only [decide_eq_true_eq]
theorem tS_new {A V : Nat → Int32} {k l v : Nat} (h : okT l v) : tS (upd A k (nI l)) (upd V k (nI v)) k = (if l = 0 then v else lS l) ∧ tD (upd A k (nI l)) (upd V k (nI v)) k = (if l = 0 then 99 else dS v) := by
  have hl : l ≤ 258 ∧ v ≤ 8191 := by unfold okT at h; omega
  unfold tS tD
  rw [pk_us, pk_us, nI_clamp (by omega), nI_clamp (by omega)]
  by_cases c : l = 0
  · subst c; exact ⟨rfl, rfl⟩
  · rw [if_neg (nI_ne0 (by omega) (by omega)), if_neg (nI_ne0 (by omega) (by omega)), if_neg c, if_neg c]
    exact ⟨rfl, rfl⟩
theorem tk_add {k l v : Nat} {it A V : Nat → Int32} (h : tk k it A V) (ho : okT l v) : tk (k + 1) (upd it k (nI (l * 65536 + v))) (upd A k (nI l)) (upd V k (nI v)) := by
  intro t ht
  by_cases c : t = k
  · subst c
    exact ⟨l, v, ho, by rw [pk_us], by rw [pk_us], by rw [pk_us]⟩
  · rw [pk_un c, pk_un c, pk_un c]
    exact h t (by omega)
theorem single_ok {it sc dc A V : Nat → Int32} {k b : Nat} (hb : b < 256) (hk : k < 4096) (h : ks sc dc A V k) : ∃ sc', g_Found_addSingle_0 4096 286 (nI b) it (nI k) sc = some (upd it k (nI (0 * 65536 + b)), nI (k + 1), sc') ∧ ks sc' dc (upd A k (nI 0)) (upd V k (nI b)) (k + 1) := by
  obtain ⟨n1, n2⟩ := tS_new (A := A) (V := V) (k := k) (l := 0) (v := b) (Or.inl ⟨rfl, hb⟩)
  rw [if_pos rfl] at n1 n2
  refine ⟨upd sc b (sc b + 1), ?_, fun s hs => ?_, fun d hd => ?_⟩
  · have ea : nI b &&& 255 = nI b := by
      rw [pk_andN (m := 255) (by omega) 8 (by decide), Nat.mod_eq_of_lt (by omega)]
    rw [g_Found_addSingle_0, g_Found_addItem_0, if_neg (show ¬ (4096 : Int32) ≤ nI k from nI_ge (b := 4096) hk (by omega)), if_neg (nI_in (by omega) (by omega)), Option.bind_some, ea, if_neg (nI_in (by omega) (by omega)), nI_clamp (by omega), nI_clamp (by omega), nI_1, Nat.zero_mul, Nat.zero_add]
  · rw [cS_upd, n1]
    by_cases c : s = b
    · subst c; rw [pk_us, h.1 s hs, nI_1, if_pos rfl]
    · rw [pk_un c, h.1 s hs, if_neg (fun z => c z.symm), Nat.add_zero]
  · rw [cD_upd, n2, if_neg (by omega), Nat.add_zero]
    exact h.2 d hd
theorem match_ok {it sc dc A V : Nat → Int32} {k l v N : Nat} (h1 : 3 ≤ l) (h2 : l ≤ 258) (h3 : 1 ≤ v) (h4 : v ≤ 8191) (hk : k < 4096) (hN : 100000 ≤ N) (h : ks sc dc A V k) : ∃ sc' dc', g_Found_addMatch_0 N 4096 286 30 (nI l) (nI v) it (nI k) sc dc = some (upd it k (nI (l * 65536 + v)), nI (k + 1), sc', dc') ∧ ks sc' dc' (upd A k (nI l)) (upd V k (nI v)) (k + 1) := by
  obtain ⟨n1, n2⟩ := tS_new (A := A) (V := V) (k := k) (l := l) (v := v) (Or.inr ⟨h1, h2, h3, h4⟩)
  rw [if_neg (by omega)] at n1 n2
  have hl := lS_in h1 h2
  have hd := dS_in h3 h4
  refine ⟨upd sc (lS l) (sc (lS l) + 1), upd dc (dS v) (dc (dS v) + 1), ?_, fun s hs => ?_, fun d hd' => ?_⟩
  · have ei : (nI l <<< ((16 : Int32) &&& 31)) ||| nI v = nI (l * 65536 + v) := by
      rw [pk_shlN ((16 : Int32) &&& 31) 16 (by decide) (by omega), nI_or, or_hi 16 (by omega)]
    rw [g_Found_addMatch_0, ei, g_Found_addItem_0, if_neg (show ¬ (4096 : Int32) ≤ nI k from nI_ge (b := 4096) hk (by omega)), if_neg (nI_in (by omega) (by omega)), Option.bind_some, sL_cls h1 h2 hN, Option.bind_some, if_neg (nI_in (by omega) (by omega)), sD_cls h3 h4 hN, Option.bind_some, if_neg (nI_in (by omega) (by omega)), nI_clamp (by omega), nI_clamp (by omega), nI_clamp (by omega), nI_1]
  · rw [cS_upd, n1]
    by_cases c : s = lS l
    · subst c; rw [pk_us, h.1 _ hs, nI_1, if_pos rfl]
    · rw [pk_un c, h.1 s hs, if_neg (fun z => c z.symm), Nat.add_zero]
  · rw [cD_upd, n2]
    by_cases c : d = dS v
    · subst c; rw [pk_us, h.2 _ hd', nI_1, if_pos rfl]
    · rw [pk_un c, h.2 d hd', if_neg (fun z => c z.symm), Nat.add_zero]
def n0s (A : Nat → Int32) (k : Nat) : Nat := ct (fun t => decide (A t = 0)) k
def n1s (A : Nat → Int32) (k : Nat) : Nat := ct (fun t => decide (¬ A t = 0)) k
theorem n0_upd {A : Nat → Int32} {k : Nat} (a : Int32) : n0s (upd A k a) (k + 1) = n0s A k + (if a = 0 then 1 else 0) := by
  unfold n0s
  rw [ct_upd (P := fun A _ t => decide (A t = 0)) (A := A) (V := A) (A' := upd A k a) (V' := A) (fun A V A' V' t h1 _ => by rw [h1]) (fun t ht => pk_un (by omega)) (fun t ht => rfl)]
  simp only [decide_eq_true_eq, pk_us]
theorem n1_upd {A : Nat → Int32} {k : Nat} (a : Int32) : n1s (upd A k a) (k + 1) = n1s A k + (if ¬ a = 0 then 1 else 0) := by
  unfold n1s
  rw [ct_upd (P := fun A _ t => decide (¬ A t = 0)) (A := A) (V := A) (A' := upd A k a) (V' := A) (fun A V A' V' t h1 _ => by rw [h1]) (fun t ht => pk_un (by omega)) (fun t ht => rfl)]
  simp only [decide_eq_true_eq, pk_us]
theorem add_n (x : Int32) (a : Nat) : x + nI a + 1 = x + nI (a + 1) := by rw [Int32.add_assoc, nI_1]
theorem sim_tokens {f g ne : Nat → Int32} {m fr e ch N : Nat} {lz s0 m0 : Int32} (h : rb f g m) (hm : m ≤ 8192) (he : e ≤ m) (hfe : e ≤ fr + 4096) (hN : 100000 ≤ N) (hch : ch ≤ 128) (hne : ∀ x, x + 2 < m → ne x = pv g x x) :
    ∀ (d p k : Nat) (kn vl vd : Int32) (it sc dc A V : Nat → Int32) (M M' : Nat), e ≤ p + d → d < M → d < M' → fr + k ≤ p → p ≤ e → tk k it A V → ks sc dc A V k → (kn = 0 ∨ ∀ a b : Int32, g_Matcher_find_0 N 8192 ne 9000 f (nI p) (nI e) (nI ch) a b = some (vl, vd)) →
    ∃ (k' : Nat) (vl' vd' : Int32) (it' sc' dc' A' V' : Nat → Int32), fr + k' ≤ e ∧ tk k' it' A' V' ∧ ks sc' dc' A' V' k' ∧
      g_Packer_findSymbols_L1 N 286 30 (nI m) 8192 ne 9000 f 4096 M (nI e) (nI ch) lz kn (nI p) (nI k) sc dc vl vd it (s0 + nI (n0s A k)) (m0 + nI (n1s A k)) = some (nI k', sc', dc', vl', vd', it', s0 + nI (n0s A' k'), m0 + nI (n1s A' k')) ∧
      g_Mo_findTokens_L1 N 8192 g 4096 4096 M' (nI e) (nI ch) lz (nI p) (nI k) A V = some (nI k', A', V') := by
  intro d
  induction d with
  | zero =>
    intro p k kn vl vd it sc dc A V M M' hd hM hM' hk hp ht hks hkn
    obtain ⟨k1, rfl⟩ := succ_of hM
    obtain ⟨k2, rfl⟩ := succ_of hM'
    refine ⟨k, vl, vd, it, sc, dc, A, V, by omega, ht, hks, ?_, ?_⟩
    · rw [g_Packer_findSymbols_L1, if_pos (nI_le (by omega) (by omega))]
    · rw [g_Mo_findTokens_L1, if_pos (nI_le (by omega) (by omega))]
  | succ d ih =>
    intro p k kn vl vd it sc dc A V M M' hd hM hM' hk hp ht hks hkn
    obtain ⟨k1, rfl⟩ := succ_of hM
    obtain ⟨k2, rfl⟩ := succ_of hM'
    by_cases cp : e ≤ p
    · refine ⟨k, vl, vd, it, sc, dc, A, V, by omega, ht, hks, ?_, ?_⟩
      · rw [g_Packer_findSymbols_L1, if_pos (nI_le (by omega) (by omega))]
      · rw [g_Mo_findTokens_L1, if_pos (nI_le (by omega) (by omega))]
    have hpe : p < e := by omega
    obtain ⟨l, D, w1, w2, w3⟩ := sim_find h hm he hp hN hch hne
    obtain ⟨l2, D2, y1, y2, y3⟩ := sim_find (p := p + 1) h hm he (by omega) hN hch hne
    obtain ⟨b, hb, eb1, eb2⟩ := h p (by omega)
    have eJ : g_Packer_findSymbols_L1 N 286 30 (nI m) 8192 ne 9000 f 4096 (k1 + 1) (nI e) (nI ch) lz kn (nI p) (nI k) sc dc vl vd it (s0 + nI (n0s A k)) (m0 + nI (n1s A k)) = g_Packer_findSymbols_J1 N 286 30 (nI m) 8192 ne 9000 f 4096 (g_Packer_findSymbols_L1 N 286 30 (nI m) 8192 ne 9000 f 4096 k1) (nI e) (nI ch) lz (nI p) (nI k) sc dc (nI l) (nI D) it (s0 + nI (n0s A k)) (m0 + nI (n1s A k)) := by
      rw [g_Packer_findSymbols_L1, if_neg (nI_ge hpe (by omega))]
      by_cases ck : kn = 0
      · rw [if_pos ck, w2, Option.bind_some]
      · rw [if_neg ck]
        rcases hkn with z | z
        · exact absurd z ck
        · have := z 0 0
          rw [w2 0 0] at this
          have q := Option.some.inj this
          have q1 : nI l = vl := congrArg Prod.fst q
          have q2 : nI D = vd := congrArg Prod.snd q
          rw [q1, q2]
    -- a single byte
    have single : ∀ (kn' vl' vd' : Int32), (kn' = 0 ∨ ∀ a b : Int32, g_Matcher_find_0 N 8192 ne 9000 f (nI (p + 1)) (nI e) (nI ch) a b = some (vl', vd')) →
        ∃ (k' : Nat) (vl'' vd'' : Int32) (it' sc' dc' A' V' : Nat → Int32), fr + k' ≤ e ∧ tk k' it' A' V' ∧ ks sc' dc' A' V' k' ∧
          g_Packer_findSymbols_J5 286 (nI m) 9000 f 4096 (g_Packer_findSymbols_L1 N 286 30 (nI m) 8192 ne 9000 f 4096 k1) (nI e) (nI ch) lz kn' (nI p) (nI k) sc dc vl' vd' it (s0 + nI (n0s A k)) (m0 + nI (n1s A k)) = some (nI k', sc', dc', vl'', vd'', it', s0 + nI (n0s A' k'), m0 + nI (n1s A' k')) ∧
          g_Mo_findTokens_J1 8192 g 4096 4096 (g_Mo_findTokens_L1 N 8192 g 4096 4096 k2) (nI e) (nI ch) lz (nI p) (nI (65536 * l + D)) (nI k) A V = some (nI k', A', V') := by
      intro kn' vl' vd' hkn'
      obtain ⟨sc1, a1, a2⟩ := single_ok (it := it) (b := b) hb (show k < 4096 by omega) hks
      obtain ⟨k', vl'', vd'', it', sc', dc', A', V', v1, v2, v3, v4, v5⟩ := ih (p + 1) (k + 1) kn' vl' vd' _ sc1 dc _ _ k1 k2 (by omega) (by omega) (by omega) (by omega) (by omega) (tk_add ht (Or.inl ⟨rfl, hb⟩)) a2 hkn'
      refine ⟨k', vl'', vd'', it', sc', dc', A', V', v1, v2, v3, ?_, ?_⟩
      · rw [g_Packer_findSymbols_J5, Row_byteAt_in h (by omega) (by omega), Option.bind_some, eb1, a1, Option.bind_some]
        dsimp only
        rw [g_Packer_findSymbols_J7, if_neg (by decide), nI_1, add_n]
        rw [n0_upd, n1_upd, if_pos (show nI 0 = 0 from rfl), if_neg (show ¬ ¬ nI 0 = 0 from fun z => z rfl), Nat.add_zero] at v4
        exact v4
      · rw [g_Mo_findTokens_J1, g_Mo_findTokens_J3, if_neg (by decide), g_Mo_findTokens_J4, if_neg (nI_in (by omega) (by omega)), if_neg (by decide), if_neg (nI_in (by omega) (by omega)), g_Mo_findTokens_J5, if_neg (nI_in (by omega) (by omega)), if_neg (by decide), nI_clamp (by omega), nI_clamp (by omega), eb1, nI_1, nI_1]
        exact v5
    -- a match
    have mat : ¬ l = 0 → ∀ (vl' vd' : Int32),
        ∃ (k' : Nat) (vl'' vd'' : Int32) (it' sc' dc' A' V' : Nat → Int32), fr + k' ≤ e ∧ tk k' it' A' V' ∧ ks sc' dc' A' V' k' ∧
          g_Packer_findSymbols_J6 N 286 30 4096 (g_Packer_findSymbols_L1 N 286 30 (nI m) 8192 ne 9000 f 4096 k1) (nI e) (nI ch) lz (nI p) (nI l) (nI D) (nI k) sc dc vl' vd' it (s0 + nI (n0s A k)) (m0 + nI (n1s A k)) = some (nI k', sc', dc', vl'', vd'', it', s0 + nI (n0s A' k'), m0 + nI (n1s A' k')) ∧
          g_Mo_findTokens_J2 8192 g 4096 4096 (g_Mo_findTokens_L1 N 8192 g 4096 4096 k2) (nI e) (nI ch) lz (nI p) (nI (65536 * l + D)) (nI k) A V = some (nI k', A', V') := by
      intro hl0 vl' vd'
      have hD : 1 ≤ D ∧ D ≤ 8191 ∧ 3 ≤ l ∧ l ≤ 258 ∧ p + l ≤ e := by omega
      obtain ⟨sc1, dc1, a1, a2⟩ := match_ok (it := it) hD.2.2.1 hD.2.2.2.1 hD.1 hD.2.1 (show k < 4096 by omega) hN hks
      obtain ⟨k', vl'', vd'', it', sc', dc', A', V', v1, v2, v3, v4, v5⟩ := ih (p + l) (k + 1) 0 vl' vd' _ sc1 dc1 _ _ k1 k2 (by omega) (by omega) (by omega) (by omega) (by omega) (tk_add ht (Or.inr ⟨hD.2.2.1, hD.2.2.2.1, hD.1, hD.2.1⟩)) a2 (Or.inl rfl)
      refine ⟨k', vl'', vd'', it', sc', dc', A', V', v1, v2, v3, ?_, ?_⟩
      · rw [g_Packer_findSymbols_J6, a1, Option.bind_some]
        dsimp only
        rw [g_Packer_findSymbols_J7, if_neg (show ¬ nI l < (1 : Int32) from nI_nlt (b := 1) (by omega) (by omega)), nI_add, add_n]
        have z : ¬ nI l = 0 := nI_ne0 (by omega) (by omega)
        rw [n0_upd, n1_upd, if_neg z, if_pos z, Nat.add_zero] at v4
        exact v4
      · have er : nI (65536 * l + D) - nI (65536 * l + D) / 65536 * 65536 = nI D := by
          rw [z_65536, pk_rem (by omega) (by decide) (by decide), show (65536 * l + D) % 65536 = D by omega]
        rw [g_Mo_findTokens_J2, g_Mo_findTokens_J3, if_pos rfl, bdiv (by omega) (by omega), g_Mo_findTokens_J4, if_neg (nI_in (by omega) (by omega)), if_pos rfl, er, g_Mo_findTokens_J5, if_neg (nI_in (by omega) (by omega)), if_pos rfl, bdiv (by omega) (by omega), nI_clamp (by omega), nI_add, nI_1]
        exact v5
    rw [eJ, g_Packer_findSymbols_J1, g_Mo_findTokens_L1, if_neg (nI_ge hpe (by omega)), w3, Option.bind_some]
    by_cases cl : l = 0
    · have cD0 : D = 0 := by omega
      have e0 : nI (65536 * l + D) = 0 := by rw [cl, cD0]; rfl
      have eX : ∀ (a b c : Int32), (if lz = 0 then g_Packer_findSymbols_J2 N 286 30 (nI m) 8192 ne 9000 f 4096 (g_Packer_findSymbols_L1 N 286 30 (nI m) 8192 ne 9000 f 4096 k1) (nI e) (nI ch) lz (nI p) (nI l) (nI D) (nI k) sc dc (nI l) (nI D) it (s0 + nI (n0s A k)) (m0 + nI (n1s A k)) else (if nI l ≤ 0 then g_Packer_findSymbols_J2 N 286 30 (nI m) 8192 ne 9000 f 4096 (g_Packer_findSymbols_L1 N 286 30 (nI m) 8192 ne 9000 f 4096 k1) (nI e) (nI ch) lz (nI p) (nI l) (nI D) (nI k) sc dc (nI l) (nI D) it (s0 + nI (n0s A k)) (m0 + nI (n1s A k)) else g_Packer_findSymbols_J3 N 286 30 (nI m) 8192 ne 9000 f 4096 (g_Packer_findSymbols_L1 N 286 30 (nI m) 8192 ne 9000 f 4096 k1) (nI e) (nI ch) lz (nI p) (nI l) (nI D) 1 (nI k) sc dc (nI l) (nI D) it (s0 + nI (n0s A k)) (m0 + nI (n1s A k)))) = g_Packer_findSymbols_J5 286 (nI m) 9000 f 4096 (g_Packer_findSymbols_L1 N 286 30 (nI m) 8192 ne 9000 f 4096 k1) (nI e) (nI ch) lz 0 (nI p) (nI k) sc dc (nI l) (nI D) it (s0 + nI (n0s A k)) (m0 + nI (n1s A k)) := by
        intro _ _ _
        rw [if_pos (show nI l ≤ 0 by rw [cl]; decide), ite_self, g_Packer_findSymbols_J2, g_Packer_findSymbols_J3, if_pos rfl, g_Packer_findSymbols_J4, if_pos (show nI l = 0 by rw [cl]; rfl)]
      rw [eX 0 0 0, if_pos e0]
      exact single 0 (nI l) (nI D) (Or.inl rfl)
    · have hl3 : 3 ≤ l := by omega
      have nz : ¬ nI (65536 * l + D) = 0 := nI_ne0 (by omega) (by omega)
      have nl : ¬ nI l = 0 := nI_ne0 (by omega) (by omega)
      rw [if_neg nz]
      by_cases cz : lz = 0
      · rw [if_pos cz, if_pos cz, g_Packer_findSymbols_J2, g_Packer_findSymbols_J3, if_pos rfl, g_Packer_findSymbols_J4, if_neg nl, if_pos rfl]
        exact mat cl (nI l) (nI D)
      · rw [if_neg cz, if_neg (nI_nle (by omega) (by omega)), if_neg cz, nI_1, if_neg (nI_ge (by omega) (by omega)), y3, Option.bind_some, bdiv (by omega) (by omega), bdiv (by omega) (by omega), g_Packer_findSymbols_J3, if_neg (by decide), nI_1, y2, Option.bind_some, g_Packer_findSymbols_J4, if_neg nl, if_neg (by decide)]
        by_cases c2 : l2 ≤ l
        · rw [if_pos (nI_le c2 (by omega)), if_pos (nI_le c2 (by omega))]
          exact mat cl (nI l2) (nI D2)
        · rw [if_neg (nI_ge (by omega) (by omega)), if_neg (nI_ge (by omega) (by omega))]
          exact single 1 (nI l2) (nI D2) (Or.inr y2)
