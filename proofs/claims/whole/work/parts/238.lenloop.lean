theorem rl_J6_off {sm ln rw_ : Nat → Int32} {N : Nat} {K : Int32 → Int32 → Int32 → Int32 → Int32 → Int32 → (Nat → Int32) → (Nat → Int32) → (Nat → Int32) → Option (Int32 × Int32 × (Nat → Int32) × (Nat → Int32) × (Nat → Int32))} {a p x1 x2 x4 x5 x6 y : Int32} (ha : ¬ a = 0) (hN : 0 < N) : g_Mo_readLengths_J6 N 320 K x1 x2 x4 x5 x6 y a p sm ln rw_ = K x1 x2 x4 x5 a p sm ln rw_ := by
  rw [g_Mo_readLengths_J6, if_neg ha]
  exact rl_L3_off ha hN
theorem rl_J5_off {g sm ln rw_ : Nat → Int32} {n N : Nat} {K : Int32 → Int32 → Int32 → Int32 → Int32 → Int32 → (Nat → Int32) → (Nat → Int32) → (Nat → Int32) → Option (Int32 × Int32 × (Nat → Int32) × (Nat → Int32) × (Nat → Int32))} {a p x1 x2 x4 x5 x6 : Int32} (ha : ¬ a = 0) (hN : 100000 ≤ N) : g_Mo_readLengths_J5 N (nI n) 8192 g 320 K x1 x2 x4 x5 x6 a p sm ln rw_ = K x1 x2 x4 x5 a p sm ln rw_ := by
  rw [g_Mo_readLengths_J5]
  by_cases c1 : x6 = 16
  · rw [if_pos c1, z_2, number_off ha hN (by decide), Option.bind_some]
    exact rl_J6_off ha (by omega)
  · rw [if_neg c1]
    by_cases c2 : x6 = 17
    · rw [if_pos c2, z_3, number_off ha hN (by decide), Option.bind_some]
      exact rl_J6_off ha (by omega)
    · rw [if_neg c2]
      by_cases c3 : x6 = 18
      · rw [if_pos c3, z_7, number_off ha hN (by decide), Option.bind_some]
        exact rl_J6_off ha (by omega)
      · rw [if_neg c3]
        exact rl_J6_off ha (by omega)
theorem fault_val {e : Nat} (he : e = 2 ∨ e = 8) : ¬ (0 : Int32) ≤ -nI e ∧ - -nI e = nI e ∧ ¬ nI e = 0 := by
  rcases he with rfl | rfl <;> decide
theorem len_loop {f g ct sy sm ln : Nat → Int32} {ls : Nat → Nat} {n N due l : Nat} {cd lg x1 x2 : Int32} (h : rb f g n) (hn : n ≤ 8192) (hN : 100000 ≤ N) (hm : mt sm 0 19 ls) (hv : okc ls 19) (R : rc ls 19 l ct sy cd lg) (hd : due ≤ 316) :
    ∀ (d hv_ i p : Nat) (fl rw_ : Nat → Int32) (M M' : Nat), due ≤ hv_ + d → hv_ ≤ due → d < M → d + 1 < M' → i ≤ hv_ → p ≤ 8 * n → rr fl rw_ hv_ →
    (∃ (p' : Nat) (fl' rw' : Nat → Int32), (p ≤ p' ∧ p' ≤ 8 * n) ∧ rr fl' rw' due ∧ g_Unpacker_readLengths_L1 N cd lg (nI n) 9000 f 16 ct 288 sy 316 M (nI due) (nI hv_) (nI i) (nI p) fl = some (0, nI p', fl') ∧ g_Mo_readLengths_L2 N (nI n) 8192 g 19 320 320 M' x1 x2 (nI due) (nI hv_) 0 (nI p) sm ln rw_ = g_Mo_readLengths_L4 N 320 320 N x1 x2 0 0 (nI p') sm ln rw') ∨
    (∃ (e p' : Nat) (fl' rw' : Nat → Int32), 0 < e ∧ e < 13 ∧ p' ≤ 8 * n ∧ g_Unpacker_readLengths_L1 N cd lg (nI n) 9000 f 16 ct 288 sy 316 M (nI due) (nI hv_) (nI i) (nI p) fl = some (nI e, nI p', fl') ∧ g_Mo_readLengths_L2 N (nI n) 8192 g 19 320 320 M' x1 x2 (nI due) (nI hv_) 0 (nI p) sm ln rw_ = some (nI e, nI p', sm, ln, rw')) := by
  intro d
  induction d with
  | zero =>
    intro hv_ i p fl rw_ M M' h1 h2 hM hM' hi hp hr
    obtain ⟨m, rfl⟩ := succ_of hM
    obtain ⟨m', rfl⟩ := succ_of hM'
    have e : hv_ = due := by omega
    subst e
    refine Or.inl ⟨p, fl, rw_, ⟨Nat.le_refl _, hp⟩, hr, ?_, ?_⟩
    · rw [g_Unpacker_readLengths_L1, if_pos (nI_le (Nat.le_refl _) (by omega))]
      split <;> rfl
    · rw [g_Mo_readLengths_L2, if_pos (nI_le (Nat.le_refl _) (by omega))]
  | succ d ih =>
    intro hv_ i p fl rw_ M M' h1 h2 hM hM' hi hp hr
    obtain ⟨m, rfl⟩ := succ_of hM
    obtain ⟨m', rfl⟩ := succ_of hM'
    by_cases c0 : hv_ = due
    · subst c0
      refine Or.inl ⟨p, fl, rw_, ⟨Nat.le_refl _, hp⟩, hr, ?_, ?_⟩
      · rw [g_Unpacker_readLengths_L1, if_pos (nI_le (Nat.le_refl _) (by omega))]
        split <;> rfl
      · rw [g_Mo_readLengths_L2, if_pos (nI_le (Nat.le_refl _) (by omega))]
    have hlt : hv_ < due := by omega
    rw [g_Unpacker_readLengths_L1, if_neg (nI_ge (by omega) (by omega)), if_neg (nI_ge hlt (by omega)), g_Mo_readLengths_L2, if_neg (nI_ge hlt (by omega)), if_pos rfl]
    obtain ⟨p1, hp1, q⟩ := sim_next h hn hN hm (by omega) (show 19 ≤ 1000 by decide) (by decide) hv R hp
    rcases q with ⟨s, hs, hpp, q1, q2⟩ | ⟨e, he, q1, q2⟩
    · have q2' : g_Mo_symbol_0 N (nI n) 19 sm 8192 g 0 19 0 (nI p) = some (nI s, 0, nI p1) := q2
      rw [q1, q2', Option.bind_some, Option.bind_some]
      dsimp only
      rw [if_pos (nI_pos' (by omega))]
      by_cases c1 : s = 16 ∧ hv_ = 0
      · obtain ⟨rfl, rfl⟩ := c1
        refine Or.inr ⟨6, p1, fl, rw_, by decide, by decide, hp1, ?_, ?_⟩
        · rw [if_pos (show nI 16 = 16 from rfl), if_pos (show nI 0 = 0 from rfl)]; rfl
        · rw [if_pos (show nI 16 = 16 from rfl), if_pos (show nI 0 = 0 from rfl)]
          show g_Mo_readLengths_J5 N (nI n) 8192 g 320 _ x1 x2 (nI due) (nI 0) (nI 16) 6 (nI p1) sm ln rw_ = _
          rw [rl_J5_off (show ¬ (6 : Int32) = 0 by decide) hN]
          exact rl_L2_off (show ¬ (6 : Int32) = 0 by decide) (by omega) (by omega)
      · have ec : (if nI s = 16 then (if nI hv_ = 0 then some ((6 : Int32), nI p1, fl) else g_Unpacker_readLengths_J1 N (nI n) 9000 f 316 (g_Unpacker_readLengths_L1 N cd lg (nI n) 9000 f 16 ct 288 sy 316 m) (nI due) (nI hv_) (nI i) (nI s) (nI p1) fl) else g_Unpacker_readLengths_J1 N (nI n) 9000 f 316 (g_Unpacker_readLengths_L1 N cd lg (nI n) 9000 f 16 ct 288 sy 316 m) (nI due) (nI hv_) (nI i) (nI s) (nI p1) fl) = g_Unpacker_readLengths_J1 N (nI n) 9000 f 316 (g_Unpacker_readLengths_L1 N cd lg (nI n) 9000 f 16 ct 288 sy 316 m) (nI due) (nI hv_) (nI i) (nI s) (nI p1) fl := by
          by_cases c2 : s = 16
          · rw [if_pos (by rw [c2]; rfl), if_neg (by rw [z_0, nI_eq (by omega) (by omega)]; exact fun z => c1 ⟨c2, z⟩)]
          · rw [if_neg (by rw [z_16, nI_eq (by omega) (by omega)]; exact c2)]
        have er : (if nI s = 16 then (if nI hv_ = 0 then Option.bind (g_Mo_blame_0 6 0) (fun r21 => g_Mo_readLengths_J5 N (nI n) 8192 g 320 (g_Mo_readLengths_L2 N (nI n) 8192 g 19 320 320 m') x1 x2 (nI due) (nI hv_) (nI s) r21 (nI p1) sm ln rw_) else g_Mo_readLengths_J5 N (nI n) 8192 g 320 (g_Mo_readLengths_L2 N (nI n) 8192 g 19 320 320 m') x1 x2 (nI due) (nI hv_) (nI s) 0 (nI p1) sm ln rw_) else g_Mo_readLengths_J5 N (nI n) 8192 g 320 (g_Mo_readLengths_L2 N (nI n) 8192 g 19 320 320 m') x1 x2 (nI due) (nI hv_) (nI s) 0 (nI p1) sm ln rw_) = g_Mo_readLengths_J5 N (nI n) 8192 g 320 (g_Mo_readLengths_L2 N (nI n) 8192 g 19 320 320 m') x1 x2 (nI due) (nI hv_) (nI s) 0 (nI p1) sm ln rw_ := by
          by_cases c2 : s = 16
          · rw [if_pos (by rw [c2]; rfl), if_neg (by rw [z_0, nI_eq (by omega) (by omega)]; exact fun z => c1 ⟨c2, z⟩)]
          · rw [if_neg (by rw [z_16, nI_eq (by omega) (by omega)]; exact c2)]
        rw [ec, er]
        have h16 : s = 16 → 0 < hv_ := fun z => by
          rcases Nat.eq_zero_or_pos hv_ with y | y
          · exact absurd ⟨z, y⟩ c1
          · exact y
        have RT := ref_told (N := N) (sm := sm) (ln := ln) (rw_ := rw_) (x1 := x1) (x2 := x2) (x4 := nI due) (x5 := nI hv_) (K := g_Mo_readLengths_L2 N (nI n) 8192 g 19 320 320 m') h hn hN hs hp1
        by_cases c3 : p1 + exb s ≤ 8 * n
        · have hex := exb_le s hs
          have hnv : numOf g p1 (exb s) < 128 := Nat.lt_of_lt_of_le (numOf_lt g p1 (exb s)) (Nat.pow_le_pow_right (n := 2) (by decide) hex)
          have hlo : lob s ≤ 11 := by unfold lob; split <;> omega
          have CT := cls_told (i := i) (fl := fl) (K := g_Unpacker_readLengths_L1 N cd lg (nI n) 9000 f 16 ct 288 sy 316 m) h hn hN hs c3 hd hlt _ rfl h16
          rw [RT.1 c3]
          have ht1 : 1 ≤ (if s < 16 then 1 else lob s + numOf g p1 (exb s)) := by
            split
            · omega
            · unfold lob; split <;> omega
          have ht2 : (if s < 16 then 1 else lob s + numOf g p1 (exb s)) ≤ 200 := by split <;> omega
          generalize (if s < 16 then 1 else lob s + numOf g p1 (exb s)) = t at CT ht1 ht2 ⊢
          by_cases c4 : t ≤ due - hv_
          · obtain ⟨fl', e1, e2, e3⟩ := CT.1 c4
            rw [e1, g_Mo_readLengths_J6, if_pos rfl, nI_add, if_pos (nI_le (by omega) (by omega))]
            obtain ⟨rw', e4, e5, e6⟩ := rl_L3 (sm := sm) (ln := ln) (K := g_Mo_readLengths_L2 N (nI n) 8192 g 19 320 320 m') (p := nI (p1 + exb s)) (x1 := x1) (x2 := x2) (x4 := nI due) (V := if s < 16 then nI s else if s = 16 then rw_ (hv_ - 1) else 0) (s := s) (t := t) (n := hv_) hs (by omega) h16 t 0 rw_ N (by omega) (by omega) (fun z => if_pos z) (fun z => by rw [if_neg (by omega), if_pos z, Nat.add_zero]) (fun z => by rw [if_neg (by omega), if_neg (by omega)])
            have e4' : g_Mo_readLengths_L3 320 (g_Mo_readLengths_L2 N (nI n) 8192 g 19 320 320 m') N x1 x2 (nI due) (nI hv_) (nI s) (nI t) 0 0 (nI (p1 + exb s)) sm ln rw_ = g_Mo_readLengths_L2 N (nI n) 8192 g 19 320 320 m' x1 x2 (nI due) (nI (hv_ + t)) 0 (nI (p1 + exb s)) sm ln rw' := e4
            rw [e4']
            suffices hrr : rr fl' rw' (hv_ + t) by
              rcases ih (hv_ + t) (i + 1) (p1 + exb s) fl' rw' m m' (by omega) (by omega) (by omega) (by omega) (by omega) c3 hrr with ⟨p', a1, a2, w1, w2⟩ | w
              · exact Or.inl ⟨p', a1, a2, ⟨by omega, w1.2⟩, w2⟩
              · exact Or.inr w
            intro j hj
            by_cases c5 : j < hv_
            · obtain ⟨v, v1, v2, v3⟩ := hr j c5
              exact ⟨v, v1, by rw [e2 j c5]; exact v2, by rw [e5 j (by omega)]; exact v3⟩
            · rw [e3 j (by omega) hj, e6 j (by omega) hj]
              by_cases c6 : s < 16
              · exact ⟨s, by omega, if_pos c6, if_pos c6⟩
              · rw [if_neg c6, if_neg c6]
                by_cases c7 : s = 16
                · rw [if_pos c7, if_pos c7]
                  have := h16 c7
                  exact hr (hv_ - 1) (by omega)
                · rw [if_neg c7, if_neg c7]
                  exact ⟨0, by omega, rfl, rfl⟩
          · refine Or.inr ⟨6, p1 + exb s, fl, rw_, by decide, by decide, c3, CT.2 c4, ?_⟩
            rw [g_Mo_readLengths_J6, if_pos rfl, nI_add, if_neg (nI_ge (by omega) (by omega))]
            show g_Mo_readLengths_L3 320 _ N x1 x2 (nI due) (nI hv_) (nI s) (nI t) 0 6 (nI (p1 + exb s)) sm ln rw_ = _
            rw [rl_L3_off (show ¬ (6 : Int32) = 0 by decide) (by omega)]
            exact rl_L2_off (show ¬ (6 : Int32) = 0 by decide) (by omega) (by omega)
        · obtain ⟨y, ey⟩ := RT.2 (by omega)
          refine Or.inr ⟨2, 8 * n, fl, rw_, by decide, by decide, Nat.le_refl _, cls_told_short hn hs hp1 (by omega), ?_⟩
          rw [ey, rl_J6_off (show ¬ (2 : Int32) = 0 by decide) (by omega)]
          exact rl_L2_off (show ¬ (2 : Int32) = 0 by decide) (by omega) (by omega)
    · have q2' : g_Mo_symbol_0 N (nI n) 19 sm 8192 g 0 19 0 (nI p) = some (-1, nI e, nI p1) := q2
      obtain ⟨z1, z2, z3⟩ := fault_val he
      refine Or.inr ⟨e, p1, fl, rw_, by omega, by omega, hp1, ?_, ?_⟩
      · rw [q1, Option.bind_some]
        dsimp only
        rw [if_neg z1, z2]
      · rw [q2', Option.bind_some]
        dsimp only
        rw [if_neg (show ¬ (-1 : Int32) = 16 by decide), rl_J5_off z3 hN]
        exact rl_L2_off z3 (by omega) (by omega)
