theorem fill4_loop {n0 b : Nat} {v : Int32} (hb : b ≤ n0) (hn : n0 ≤ 1000) : ∀ (d a : Nat) (f : Nat → Int32) (M : Nat), a + d = b → d < M → ∃ f', g_Ar_fill4_L1 n0 M (nI b) v (nI a) f = some f' ∧ (∀ j, j < a → f' j = f j) ∧ (∀ j, a ≤ j → j < b → f' j = v) := by
  intro d
  induction d with
  | zero =>
    intro a f M ha hM
    obtain ⟨m, rfl⟩ := succ_of hM
    refine ⟨f, ?_, fun _ _ => rfl, fun j h1 h2 => absurd h1 (by omega)⟩
    simp (disch := omega) only [g_Ar_fill4_L1, nI_leI, if_pos]
  | succ d ih =>
    intro a f M ha hM
    obtain ⟨m, rfl⟩ := succ_of hM
    obtain ⟨f', e, h1, h2⟩ := ih (a + 1) (upd f a v) m (by omega) (by omega)
    refine ⟨f', ?_, fun j hj => by rw [h1 j (by omega), pk_un (by omega)], fun j hj1 hj2 => ?_⟩
    · simp (disch := omega) only [g_Ar_fill4_L1, z_0, nI_leI, nI_ltI, nI_clamp, if_neg, nI_1]
      exact e
    · by_cases c : j = a
      · subst c
        rw [h1 j (by omega), pk_us]
      · exact h2 j (by omega) hj2
theorem fill4_ok {n0 a b N : Nat} {v : Int32} {f : Nat → Int32} (hab : a ≤ b) (hb : b ≤ n0) (hn : n0 ≤ 1000) (hN : 100000 ≤ N) : ∃ f', g_Ar_fill4_0 N n0 (nI a) (nI b) v f = some f' ∧ (∀ j, j < a → f' j = f j) ∧ (∀ j, a ≤ j → j < b → f' j = v) := by
  obtain ⟨f', e, h1, h2⟩ := fill4_loop (v := v) hb hn (b - a) a f N (by omega) (by omega)
  refine ⟨f', ?_, h1, h2⟩
  rw [g_Ar_fill4_0, g_Ar_rangeCheck_0, if_pos (nI_le hab (by omega)), if_pos (nI_pos' (by omega)), if_pos (show nI b ≤ Int32.ofNat n0 from nI_le hb (by omega))]
  exact e
def exb (s : Nat) : Nat := if s < 16 then 0 else if s = 16 then 2 else if s = 17 then 3 else 7
def lob (s : Nat) : Nat := if s = 18 then 11 else 3
theorem exb_ok : ∀ s, s < 19 → g_Bp_extraOfTold_0 (nI s) = some (nI (exb s)) := by decide +kernel
theorem lob_ok : ∀ s, s < 19 → g_Bp_leastOfTold_0 (nI s) = some (nI (lob s)) := by decide +kernel
theorem exb_le : ∀ s, s < 19 → exb s ≤ 7 := by decide
/-- the rows of lengths that were told so far -/
def rr (fl rw_ : Nat → Int32) (n : Nat) : Prop := ∀ j, j < n → ∃ v : Nat, v ≤ 15 ∧ fl j = nI v ∧ rw_ j = nI v
theorem rl_L3_off {sm ln rw_ : Nat → Int32} {M : Nat} {K : Int32 → Int32 → Int32 → Int32 → Int32 → Int32 → (Nat → Int32) → (Nat → Int32) → (Nat → Int32) → Option (Int32 × Int32 × (Nat → Int32) × (Nat → Int32) × (Nat → Int32))} {a p x1 x2 x4 x5 x6 x7 x8 : Int32} (ha : ¬ a = 0) (hM : 0 < M) : g_Mo_readLengths_L3 320 K M x1 x2 x4 x5 x6 x7 x8 a p sm ln rw_ = K x1 x2 x4 x5 a p sm ln rw_ := by
  obtain ⟨m, rfl⟩ := succ_of hM
  rw [g_Mo_readLengths_L3, if_neg ha]
  by_cases c : x7 ≤ x8
  · rw [if_pos c]
  · rw [if_neg c]
theorem rl_L3 {sm ln : Nat → Int32} {K : Int32 → Int32 → Int32 → Int32 → Int32 → Int32 → (Nat → Int32) → (Nat → Int32) → (Nat → Int32) → Option (Int32 × Int32 × (Nat → Int32) × (Nat → Int32) × (Nat → Int32))} {p x1 x2 x4 V : Int32} {s t n : Nat} (hs : s < 19) (ht : n + t ≤ 320) (h16 : s = 16 → 0 < n) :
    ∀ (d k : Nat) (rw_ : Nat → Int32) (M : Nat), k + d = t → d < M → (s < 16 → V = nI s) → (s = 16 → rw_ (n + k - 1) = V) → (16 < s → V = 0) →
    ∃ rw', g_Mo_readLengths_L3 320 K M x1 x2 x4 (nI (n + k)) (nI s) (nI t) (nI k) 0 p sm ln rw_ = K x1 x2 x4 (nI (n + t)) 0 p sm ln rw' ∧ (∀ j, j < n + k → rw' j = rw_ j) ∧ (∀ j, n + k ≤ j → j < n + t → rw' j = V) := by
  intro d
  induction d with
  | zero =>
    intro k rw_ M hk hM h1 h2 h3
    obtain ⟨m, rfl⟩ := succ_of hM
    have e : k = t := by omega
    subst e
    refine ⟨rw_, ?_, fun _ _ => rfl, fun j q1 q2 => absurd q1 (by omega)⟩
    rw [g_Mo_readLengths_L3, if_pos (nI_le (Nat.le_refl _) (by omega))]
  | succ d ih =>
    intro k rw_ M hk hM h1 h2 h3
    obtain ⟨m, rfl⟩ := succ_of hM
    obtain ⟨rw', e, q1, q2⟩ := ih (k + 1) (upd rw_ (n + k) V) m (by omega) (by omega) h1 (fun z => by rw [show n + (k + 1) - 1 = n + k by omega, pk_us]) h3
    refine ⟨rw', ?_, fun j hj => by rw [q1 j (by omega), pk_un (by omega)], fun j hj1 hj2 => ?_⟩
    · rw [← e, g_Mo_readLengths_L3, if_neg (nI_ge (by omega) (by omega)), if_pos rfl]
      have key : ∀ W, W = V → g_Mo_readLengths_J7 320 (g_Mo_readLengths_L3 320 K m) x1 x2 x4 (nI (n + k)) (nI s) (nI t) (nI k) W (nI (n + k)) 0 p sm ln rw_ = g_Mo_readLengths_L3 320 K m x1 x2 x4 (nI (n + (k + 1))) (nI s) (nI t) (nI (k + 1)) 0 p sm ln (upd rw_ (n + k) V) := by
        intro W hW
        subst hW
        simp (disch := omega) only [g_Mo_readLengths_J7, z_0, nI_ltI, nI_clamp, if_neg, nI_1]
        rfl
      by_cases c1 : s < 16
      · rw [if_neg (show ¬ (16 : Int32) ≤ nI s from nI_ge (b := 16) c1 (by omega))]
        exact key _ (h1 c1).symm
      · rw [if_pos (show (16 : Int32) ≤ nI s from nI_le (a := 16) (by omega) (by omega))]
        by_cases c2 : s = 16
        · have hn := h16 c2
          rw [if_pos (by rw [c2]; rfl), z_1, pk_sub (by omega), if_neg (by rw [z_0, nI_ltI (by omega) (by omega), nI_clamp (by omega)]; omega), nI_clamp (by omega)]
          exact key _ (h2 c2)
        · rw [if_neg (by rw [z_16, nI_eq (by omega) (by omega)]; exact c2)]
          exact key _ (h3 (by omega)).symm
    · by_cases c : j = n + k
      · subst c
        rw [q1 _ (by omega), pk_us]
      · exact q2 j (by omega) (by omega)
/-- one length or a repetition of lengths, behind its symbol: the class -/
theorem cls_told {f g : Nat → Int32} {n N due have_ i p s : Nat} {fl : Nat → Int32} {K : Int32 → Int32 → Int32 → Int32 → (Nat → Int32) → Option (Int32 × Int32 × (Nat → Int32))} (h : rb f g n) (hn : n ≤ 8192) (hN : 100000 ≤ N) (hs : s < 19) (hp : p + exb s ≤ 8 * n) (hd : due ≤ 316) (hh : have_ < due) (t : Nat) (ht : t = if s < 16 then 1 else lob s + numOf g p (exb s)) (h16 : s = 16 → 0 < have_) :
    (t ≤ due - have_ → ∃ fl', g_Unpacker_readLengths_J1 N (nI n) 9000 f 316 K (nI due) (nI have_) (nI i) (nI s) (nI p) fl = K (nI due) (nI (have_ + t)) (nI (i + 1)) (nI (p + exb s)) fl' ∧ (∀ j, j < have_ → fl' j = fl j) ∧ (∀ j, have_ ≤ j → j < have_ + t → fl' j = (if s < 16 then nI s else if s = 16 then fl (have_ - 1) else 0))) ∧
    (¬ t ≤ due - have_ → g_Unpacker_readLengths_J1 N (nI n) 9000 f 316 K (nI due) (nI have_) (nI i) (nI s) (nI p) fl = some (6, nI (p + exb s), fl)) := by
  have hex := exb_le s hs
  have hv := numOf_lt g p (exb s)
  have hv2 : numOf g p (exb s) < 128 := Nat.lt_of_lt_of_le hv (Nat.pow_le_pow_right (n := 2) (by decide) hex)
  have hlo : lob s ≤ 11 := by unfold lob; split <;> omega
  have ht2 : t ≤ 200 := by rw [ht]; split <;> omega
  have e0 : g_Unpacker_readLengths_J1 N (nI n) 9000 f 316 K (nI due) (nI have_) (nI i) (nI s) (nI p) fl = g_Unpacker_readLengths_J2 N 316 K (nI due) (nI have_) (nI i) (nI s) (nI t) (nI (p + exb s)) fl := by
    rw [g_Unpacker_readLengths_J1, exb_ok s hs, Option.bind_some, nextNumber_in (N := N) h (by omega) hN (by omega) hp, Option.bind_some]
    dsimp only
    rw [if_pos (nI_pos' (by omega))]
    by_cases c : s < 16
    · rw [if_neg (show ¬ (16 : Int32) ≤ nI s from nI_ge (b := 16) c (by omega)), ht, if_pos c]; rfl
    · rw [if_pos (show (16 : Int32) ≤ nI s from nI_le (a := 16) (by omega) (by omega)), lob_ok s hs, Option.bind_some, nI_add, ht, if_neg c]
  rw [e0, g_Unpacker_readLengths_J2, pk_sub (by omega)]
  refine ⟨fun hle => ?_, fun hle => ?_⟩
  · rw [if_pos (nI_le hle (by omega))]
    have key : ∀ W, ∃ fl', g_Unpacker_readLengths_J3 N 316 K (nI due) (nI have_) (nI i) (nI t) W (nI (p + exb s)) fl = K (nI due) (nI (have_ + t)) (nI (i + 1)) (nI (p + exb s)) fl' ∧ (∀ j, j < have_ → fl' j = fl j) ∧ (∀ j, have_ ≤ j → j < have_ + t → fl' j = W) := by
      intro W
      obtain ⟨fl', e, q1, q2⟩ := fill4_ok (v := W) (f := fl) (show have_ ≤ have_ + t by omega) (show have_ + t ≤ 316 by omega) (by omega) hN
      refine ⟨fl', ?_, q1, q2⟩
      rw [g_Unpacker_readLengths_J3, nI_add, e, Option.bind_some, nI_1]
    by_cases c : s < 16
    · rw [if_neg (show ¬ (16 : Int32) ≤ nI s from nI_ge (b := 16) c (by omega)), if_pos c]
      exact key _
    · rw [if_pos (show (16 : Int32) ≤ nI s from nI_le (a := 16) (by omega) (by omega)), if_neg c]
      by_cases c2 : s = 16
      · have := h16 c2
        rw [if_pos (by rw [c2]; rfl), z_1, pk_sub (by omega), if_neg (by rw [z_0, nI_ltI (by omega) (by omega), nI_clamp (by omega)]; omega), nI_clamp (by omega), if_pos c2]
        exact key _
      · rw [if_neg (by rw [z_16, nI_eq (by omega) (by omega)]; exact c2), if_neg c2]
        exact key _
  · rw [if_neg (nI_ge (by omega) (by omega))]
theorem cls_told_short {f : Nat → Int32} {n N p s : Nat} {x2 x3 x4 : Int32} {fl : Nat → Int32} {K : Int32 → Int32 → Int32 → Int32 → (Nat → Int32) → Option (Int32 × Int32 × (Nat → Int32))} (hn : n ≤ 8192) (hs : s < 19) (hp : p ≤ 8 * n) (hq : 8 * n < p + exb s) : g_Unpacker_readLengths_J1 N (nI n) 9000 f 316 K x2 x3 x4 (nI s) (nI p) fl = some (2, nI (8 * n), fl) := by
  have hex := exb_le s hs
  rw [g_Unpacker_readLengths_J1, exb_ok s hs, Option.bind_some, nextNumber_out (by omega) (by omega) hp hq, Option.bind_some]
  rfl
/-- the same: the reference, its symbol's fault being v -/
theorem ref_told {f g : Nat → Int32} {n N p s : Nat} {sm ln rw_ : Nat → Int32} {x1 x2 x4 x5 : Int32} {K : Int32 → Int32 → Int32 → Int32 → Int32 → Int32 → (Nat → Int32) → (Nat → Int32) → (Nat → Int32) → Option (Int32 × Int32 × (Nat → Int32) × (Nat → Int32) × (Nat → Int32))} (h : rb f g n) (hn : n ≤ 8192) (hN : 100000 ≤ N) (hs : s < 19) (hp : p ≤ 8 * n) :
    (p + exb s ≤ 8 * n → g_Mo_readLengths_J5 N (nI n) 8192 g 320 K x1 x2 x4 x5 (nI s) 0 (nI p) sm ln rw_ = g_Mo_readLengths_J6 N 320 K x1 x2 x4 x5 (nI s) (nI (if s < 16 then 1 else lob s + numOf g p (exb s))) 0 (nI (p + exb s)) sm ln rw_) ∧
    (8 * n < p + exb s → ∃ y : Int32, g_Mo_readLengths_J5 N (nI n) 8192 g 320 K x1 x2 x4 x5 (nI s) 0 (nI p) sm ln rw_ = g_Mo_readLengths_J6 N 320 K x1 x2 x4 x5 (nI s) y 2 (nI (8 * n)) sm ln rw_) := by
  rw [g_Mo_readLengths_J5]
  by_cases c1 : s = 16
  · subst c1
    rw [if_pos (show nI 16 = 16 from rfl)]
    refine ⟨fun q => ?_, fun q => ?_⟩
    · rw [z_2, number_in (N := N) h hn hN (show 2 ≤ 16 by decide) q, Option.bind_some, z_3, nI_add]; rfl
    · exact ⟨_, by rw [z_2, number_short (N := N) h hn hN (show 2 ≤ 16 by decide) hp q, Option.bind_some]; rfl⟩
  · rw [if_neg (by rw [z_16, nI_eq (by omega) (by omega)]; exact c1)]
    by_cases c2 : s = 17
    · subst c2
      rw [if_pos (show nI 17 = 17 from rfl)]
      refine ⟨fun q => ?_, fun q => ?_⟩
      · rw [z_3, number_in (N := N) h hn hN (show 3 ≤ 16 by decide) q, Option.bind_some, nI_add]; rfl
      · exact ⟨_, by rw [z_3, number_short (N := N) h hn hN (show 3 ≤ 16 by decide) hp q, Option.bind_some]⟩
    · rw [if_neg (by rw [z_17, nI_eq (by omega) (by omega)]; exact c2)]
      by_cases c3 : s = 18
      · subst c3
        rw [if_pos (show nI 18 = 18 from rfl)]
        refine ⟨fun q => ?_, fun q => ?_⟩
        · rw [z_7, number_in (N := N) h hn hN (show 7 ≤ 16 by decide) q, Option.bind_some, z_11, nI_add]; rfl
        · exact ⟨_, by rw [z_7, number_short (N := N) h hn hN (show 7 ≤ 16 by decide) hp q, Option.bind_some]⟩
      · have c4 : s < 16 := by omega
        have e0 : exb s = 0 := by unfold exb; rw [if_pos c4]
        rw [if_neg (by rw [z_18, nI_eq (by omega) (by omega)]; exact c3)]
        refine ⟨fun q => ?_, fun q => absurd q (by omega)⟩
        rw [e0, if_pos c4]; rfl
