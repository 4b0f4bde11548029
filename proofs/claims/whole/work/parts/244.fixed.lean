def fL (s : Nat) : Nat := if s < 144 then 8 else if s < 256 then 9 else if s < 280 then 7 else 8
def fD (s : Nat) : Nat := 5
theorem fL_le (s : Nat) : fL s ≤ 15 := by unfold fL; split <;> (try split) <;> (try split) <;> omega
theorem fL_ok : okc fL 288 := Or.inl (by decide +kernel)
theorem fD_ok : okc fD 32 := Or.inl (by decide +kernel)
theorem fix2_loop : ∀ (d k : Nat) (ln : Nat → Int32) (M : Nat), k + d = 32 → d < M → mt ln 0 288 fL → (∀ j, j < k → ln (288 + j) = nI 5) → ∃ ln', g_Mo_fixedLengths_L2 320 M (nI (288 + k)) ln = some ln' ∧ mt ln' 0 288 fL ∧ mt ln' 288 32 fD := by
  intro d
  induction d with
  | zero =>
    intro k ln M hk hM h1 h2
    obtain ⟨m, rfl⟩ := succ_of hM
    refine ⟨ln, ?_, h1, fun s hs => ⟨h2 s (by omega), by unfold fD; omega⟩⟩
    rw [g_Mo_fixedLengths_L2, if_pos (show (320 : Int32) ≤ nI (288 + k) from nI_le (a := 320) (by omega) (by omega))]
  | succ d ih =>
    intro k ln M hk hM h1 h2
    obtain ⟨m, rfl⟩ := succ_of hM
    rw [g_Mo_fixedLengths_L2, if_neg (show ¬ (320 : Int32) ≤ nI (288 + k) from nI_ge (b := 320) (by omega) (by omega)), if_neg (nI_in (by omega) (by omega)), nI_clamp (by omega), nI_1]
    refine ih (k + 1) (upd ln (288 + k) 5) m (by omega) (by omega) (fun s hs => ?_) (fun j hj => ?_)
    · rw [pk_un (by omega)]; exact h1 s hs
    · by_cases c : j = k
      · subst c; rw [pk_us]; rfl
      · rw [pk_un (by omega)]; exact h2 j (by omega)
theorem fix1_loop {N : Nat} (hN : 100000 ≤ N) : ∀ (d k : Nat) (ln : Nat → Int32) (M : Nat), k + d = 288 → d < M → (∀ j, j < k → ln j = nI (fL j)) → ∃ ln', g_Mo_fixedLengths_L1 N 320 M (nI k) ln = some ln' ∧ mt ln' 0 288 fL ∧ mt ln' 288 32 fD := by
  intro d
  induction d with
  | zero =>
    intro k ln M hk hM h1
    obtain ⟨m, rfl⟩ := succ_of hM
    rw [g_Mo_fixedLengths_L1, if_pos (show (288 : Int32) ≤ nI k from nI_le (a := 288) (by omega) (by omega))]
    exact fix2_loop 32 0 ln N (by omega) (by omega) (fun s hs => ⟨by rw [Nat.zero_add]; exact h1 s (by omega), fL_le s⟩) (fun j hj => absurd hj (Nat.not_lt_zero j))
  | succ d ih =>
    intro k ln M hk hM h1
    obtain ⟨m, rfl⟩ := succ_of hM
    have key : ∀ w : Int32, w = nI (fL k) → ∃ ln', g_Mo_fixedLengths_J1 320 (g_Mo_fixedLengths_L1 N 320 m) (nI k) w (nI k) ln = some ln' ∧ mt ln' 0 288 fL ∧ mt ln' 288 32 fD := by
      intro w hw
      rw [g_Mo_fixedLengths_J1, if_neg (nI_in (by omega) (by omega)), nI_clamp (by omega), nI_1]
      refine ih (k + 1) (upd ln k w) m (by omega) (by omega) (fun j hj => ?_)
      by_cases c : j = k
      · subst c; rw [pk_us]; exact hw
      · rw [pk_un c]; exact h1 j (by omega)
    rw [g_Mo_fixedLengths_L1, if_neg (show ¬ (288 : Int32) ≤ nI k from nI_ge (b := 288) (by omega) (by omega))]
    by_cases c1 : k < 144
    · rw [if_neg (show ¬ (144 : Int32) ≤ nI k from nI_ge (b := 144) c1 (by omega))]
      exact key 8 (by unfold fL; rw [if_pos c1]; rfl)
    · rw [if_pos (show (144 : Int32) ≤ nI k from nI_le (a := 144) (by omega) (by omega))]
      by_cases c2 : k < 256
      · rw [if_neg (show ¬ (256 : Int32) ≤ nI k from nI_ge (b := 256) c2 (by omega))]
        exact key 9 (by unfold fL; rw [if_neg c1, if_pos c2]; rfl)
      · rw [if_pos (show (256 : Int32) ≤ nI k from nI_le (a := 256) (by omega) (by omega))]
        by_cases c3 : k < 280
        · rw [if_neg (show ¬ (280 : Int32) ≤ nI k from nI_ge (b := 280) c3 (by omega))]
          exact key 7 (by unfold fL; rw [if_neg c1, if_neg c2, if_pos c3]; rfl)
        · rw [if_pos (show (280 : Int32) ≤ nI k from nI_le (a := 280) (by omega) (by omega))]
          exact key 8 (by unfold fL; rw [if_neg c1, if_neg c2, if_neg c3]; rfl)
theorem fixed_ok {N : Nat} (hN : 100000 ≤ N) (ln : Nat → Int32) : ∃ ln', g_Mo_fixedLengths_0 N 320 ln = some ln' ∧ mt ln' 0 288 fL ∧ mt ln' 288 32 fD := by
  rw [g_Mo_fixedLengths_0]
  exact fix1_loop hN 288 0 ln N (by omega) (by omega) (fun j hj => absurd hj (Nat.not_lt_zero j))
