def lA (v : Nat → Nat) (hs s : Nat) : Nat := if s < hs then v s else 0
def lB (v : Nat → Nat) (hs d s : Nat) : Nat := if s ≤ d then v (hs + s) else 0
theorem L4_loop {sm : Nat → Int32} {N h d : Nat} {p : Int32} (hh : h ≤ 29) (hd : d ≤ 29) {rw_ : Nat → Int32} {v : Nat → Nat} (hr : ∀ j, j < h + 257 + (d + 1) → rw_ j = nI (v j)) : ∀ (e k : Nat) (ln : Nat → Int32) (M : Nat), k + e = 320 → e < M → (∀ j, j < k → ln j = nI (if j < 288 then lA v (h + 257) j else lB v (h + 257) d (j - 288))) →
    ∃ ln', g_Mo_readLengths_L4 N 320 320 M (nI h) (nI d) (nI k) 0 p sm ln rw_ = g_Mo_readLengths_J10 N 320 0 p sm ln' rw_ ∧ ∀ j, j < 320 → ln' j = nI (if j < 288 then lA v (h + 257) j else lB v (h + 257) d (j - 288)) := by
  intro e
  induction e with
  | zero =>
    intro k ln M hk hM hl
    obtain ⟨m, rfl⟩ := succ_of hM
    refine ⟨ln, ?_, fun j hj => hl j (by omega)⟩
    rw [g_Mo_readLengths_L4, if_pos (show (320 : Int32) ≤ nI k from nI_le (a := 320) (by omega) (by omega))]
  | succ e ih =>
    intro k ln M hk hM hl
    obtain ⟨m, rfl⟩ := succ_of hM
    have key : ∀ w : Nat, w = (if k < 288 then lA v (h + 257) k else lB v (h + 257) d (k - 288)) → ∃ ln', g_Mo_readLengths_J9 320 (g_Mo_readLengths_L4 N 320 320 m) (nI h) (nI d) (nI k) (nI w) (nI k) 0 p sm ln rw_ = g_Mo_readLengths_J10 N 320 0 p sm ln' rw_ ∧ ∀ j, j < 320 → ln' j = nI (if j < 288 then lA v (h + 257) j else lB v (h + 257) d (j - 288)) := by
      intro w hw
      obtain ⟨ln', e1, e2⟩ := ih (k + 1) (upd ln k (nI w)) m (by omega) (by omega) (fun j hj => by
        by_cases c : j = k
        · subst c; rw [pk_us, hw]
        · rw [pk_un c]; exact hl j (by omega))
      refine ⟨ln', ?_, e2⟩
      rw [← e1]
      simp (disch := omega) only [g_Mo_readLengths_J9, z_0, nI_ltI, nI_clamp, if_neg, nI_1]
    rw [g_Mo_readLengths_L4, if_neg (show ¬ (320 : Int32) ≤ nI k from nI_ge (b := 320) (by omega) (by omega)), if_pos rfl, z_257, nI_add]
    by_cases c1 : h + 257 ≤ k
    · rw [if_pos (nI_le c1 (by omega))]
      by_cases c2 : k < 288
      · rw [if_pos (show nI k < (288 : Int32) from nI_lt (b := 288) c2 (by omega)), g_Mo_readLengths_J8]
        exact key 0 (by rw [if_pos c2]; unfold lA; rw [if_neg (by omega)])
      · rw [if_neg (show ¬ nI k < (288 : Int32) from nI_nlt (b := 288) (by omega) (by omega)), z_288, pk_sub (by omega)]
        by_cases c3 : d < k - 288
        · rw [if_pos (nI_lt c3 (by omega)), g_Mo_readLengths_J8]
          exact key 0 (by rw [if_neg c2]; unfold lB; rw [if_neg (by omega)])
        · rw [if_neg (nI_nlt (by omega) (by omega)), nI_add, pk_sub (by omega), if_neg (by rw [z_0, nI_ltI (by omega) (by omega), nI_clamp (by omega)]; omega), nI_clamp (by omega), show h + 257 + k - 288 = h + 257 + (k - 288) by omega, hr _ (by omega)]
          exact key _ (by rw [if_neg c2]; unfold lB; rw [if_pos (by omega)])
    · rw [if_neg (nI_ge (by omega) (by omega)), if_neg (by rw [z_0, nI_ltI (by omega) (by omega), nI_clamp (by omega)]; omega), nI_clamp (by omega), hr k (by omega)]
      exact key _ (by rw [if_pos (by omega)]; unfold lA; rw [if_pos (by omega)])
set_option maxRecDepth 100000 in
/-- what both do behind the last length: codes or the fault CODES -/
theorem sim_end {fl lc ls m1 s1 m2 s2 sm ln rw_ : Nat → Int32} {N h d : Nat} {lk ll k1 t1 k2 t2 p : Int32} (hN : 100000 ≤ N) (hh : h ≤ 29) (hd : d ≤ 29) (hr : rr fl rw_ (h + 257 + (d + 1))) :
    ∃ (e : Nat) (c1 y1 c2 y2 ln' : Nat → Int32) (k1' t1' k2' t2' : Int32), e < 13 ∧
      g_Unpacker_readCodes_J1 N 316 16 288 16 288 (nI (h + 257)) (nI (d + 1)) 0 p fl lc lk ll ls m1 k1 t1 s1 m2 k2 t2 s2 = some (nI e, p, fl, lc, lk, ll, ls, c1, k1', t1', y1, c2, k2', t2', y2) ∧
      g_Mo_readLengths_L4 N 320 320 N (nI h) (nI d) 0 0 p sm ln rw_ = some (nI e, p, sm, ln', rw_) ∧
      (e = 0 → ∃ (len1 len2 : Nat → Nat) (l1 l2 : Nat), mt ln' 0 288 len1 ∧ mt ln' 288 32 len2 ∧ okc len1 288 ∧ okc len2 32 ∧ rc len1 288 l1 c1 y1 k1' t1' ∧ rc len2 32 l2 c2 y2 k2' t2') := by
  obtain ⟨v, hv1, hv2, hv3⟩ : ∃ v : Nat → Nat, (∀ j, j < h + 257 + (d + 1) → v j ≤ 15) ∧ (∀ j, j < h + 257 + (d + 1) → fl j = nI (v j)) ∧ (∀ j, j < h + 257 + (d + 1) → rw_ j = nI (v j)) := by
    refine ⟨fun j => (rw_ j).toNatClampNeg, fun j hj => ?_, fun j hj => ?_, fun j hj => ?_⟩
    · obtain ⟨w, w1, w2, w3⟩ := hr j hj
      show (rw_ j).toNatClampNeg ≤ 15
      rw [w3, nI_clamp (by omega)]; exact w1
    · obtain ⟨w, w1, w2, w3⟩ := hr j hj
      show fl j = nI (rw_ j).toNatClampNeg
      rw [w3, nI_clamp (by omega)]; exact w2
    · obtain ⟨w, w1, w2, w3⟩ := hr j hj
      show rw_ j = nI (rw_ j).toNatClampNeg
      rw [w3, nI_clamp (by omega)]
  obtain ⟨ln', eL, hl⟩ := L4_loop (N := N) (sm := sm) (p := p) hh hd hv3 320 0 ln N (by omega) (by omega) (fun j hj => absurd hj (Nat.not_lt_zero j))
  have m1' : mt ln' 0 288 (lA v (h + 257)) := by
    intro s hs
    have := hl s (by omega)
    rw [if_pos hs] at this
    refine ⟨by rw [Nat.zero_add]; exact this, ?_⟩
    unfold lA
    split
    · exact hv1 s (by omega)
    · omega
  have m2' : mt ln' 288 32 (lB v (h + 257) d) := by
    intro s hs
    have := hl (288 + s) (by omega)
    rw [if_neg (by omega), show 288 + s - 288 = s by omega] at this
    refine ⟨this, ?_⟩
    unfold lB
    split
    · exact hv1 _ (by omega)
    · omega
  have f1 : mt fl 0 (h + 257) (lA v (h + 257)) := by
    intro s hs
    refine ⟨?_, (m1' s (by omega)).2⟩
    rw [Nat.zero_add, hv2 s (by omega)]
    unfold lA
    rw [if_pos hs]
  have f2 : mt fl (h + 257) (d + 1) (lB v (h + 257) d) := by
    intro s hs
    refine ⟨?_, (m2' s (by omega)).2⟩
    rw [hv2 _ (by omega)]
    unfold lB
    rw [if_pos (by omega)]
  have q00 : 0 + (h + 257) ≤ 316 := by rw [Nat.zero_add]; omega
  obtain ⟨l1, c1, y1, e1, R1⟩ := make_ok (ct := m1) (sy := s1) (cd := k1) (lg := t1) f1 q00 (by omega) (by omega) hN
  obtain ⟨l2, c2, y2, e2, R2⟩ := make_ok (ct := m2) (sy := s2) (cd := k2) (lg := t2) f2 (show (h + 257) + (d + 1) ≤ 316 by omega) (by omega) (by omega) hN
  have z1 : ∀ s, h + 257 ≤ s → s < 288 → lA v (h + 257) s = 0 := fun s q1 q2 => by unfold lA; rw [if_neg (by omega)]
  have z2 : ∀ s, d + 1 ≤ s → s < 32 → lB v (h + 257) d s = 0 := fun s q1 q2 => by unfold lB; rw [if_neg (by omega)]
  have R1' := rc_pad (show h + 257 ≤ 288 by omega) z1 R1
  have R2' := rc_pad (show d + 1 ≤ 32 by omega) z2 R2
  have hl1 : ∀ s, s < 288 → lA v (h + 257) s ≤ 15 := fun s hs => (m1' s hs).2
  have hl2 : ∀ s, s < 32 → lB v (h + 257) d s ≤ 15 := fun s hs => (m2' s hs).2
  have hb2 : bf (lB v (h + 257) d) (d + 1) 15 = bf (lB v (h + 257) d) 32 15 := by
    have q := R2'.2.1
    have b1 := bf_n (len := lB v (h + 257) d) (n := d + 1) (k := 15) (by omega)
    have b2 := bf_n (len := lB v (h + 257) d) (n := 32) (k := 15) (by omega)
    exact (nI_eq (by omega) (by omega)).mp q
  have F1 := fit_ok (N := N) hl1 (by omega) hN R1'
  have F2 := fit_ok (N := N) hl2 (by omega) hN R2'
  have N2 := none_ok (len := lB v (h + 257) d) (n := 32) hl2 (by omega)
  rw [← hb2] at N2
  have A1 := areCodes_ok (N := N) (z := 0) m1' (show 0 + 288 ≤ 320 by omega) (by omega) hN
  have A2 := areCodes_ok (N := N) (z := 1) m2' (show 288 + 32 ≤ 320 by omega) (by omega) hN
  have A1' : g_Mo_areCodes_0 N 320 ln' 0 288 0 = some (if lw (lA v (h + 257)) 0 288 = 32768 ∨ (cg (lA v (h + 257)) 1 288 = 1 ∧ lw (lA v (h + 257)) 0 288 = 16384) ∨ (cg (lA v (h + 257)) 1 288 = 0 ∧ ¬ (0 : Int32) = 0) then 1 else 0) := A1
  have A2' : g_Mo_areCodes_0 N 320 ln' 288 32 1 = some (if lw (lB v (h + 257) d) 0 32 = 32768 ∨ (cg (lB v (h + 257) d) 1 32 = 1 ∧ lw (lB v (h + 257) d) 0 32 = 16384) ∨ (cg (lB v (h + 257) d) 1 32 = 0 ∧ ¬ (1 : Int32) = 0) then 1 else 0) := A2
  have e1' : g_ReadCodes_make_0 N 16 316 fl 288 0 (nI (h + 257)) m1 k1 t1 s1 = some (c1, nI (bf (lA v (h + 257)) (h + 257) 15), nI l1, y1) := e1
  have eL' : g_Mo_readLengths_L4 N 320 320 N (nI h) (nI d) 0 0 p sm ln rw_ = g_Mo_readLengths_J10 N 320 0 p sm ln' rw_ := eL
  have c256 : (256 : Int32).toNatClampNeg = 256 := by decide
  have v256 : fl 256 = nI (v 256) := hv2 256 (by omega)
  have w256 : ln' 256 = nI (v 256) := by
    have := hl 256 (by omega)
    rw [if_pos (by omega)] at this
    rw [this]; unfold lA; rw [if_pos (by omega)]
  have b256 := hv1 256 (by omega)
  obtain ⟨P1, hp1⟩ : ∃ P : Prop, P = (lw (lA v (h + 257)) 0 288 = 32768 ∨ (cg (lA v (h + 257)) 1 288 = 1 ∧ lw (lA v (h + 257)) 0 288 = 16384)) := ⟨_, rfl⟩
  obtain ⟨P2, hp2⟩ : ∃ P : Prop, P = (lw (lB v (h + 257) d) 0 32 = 32768 ∨ (cg (lB v (h + 257) d) 1 32 = 1 ∧ lw (lB v (h + 257) d) 0 32 = 16384)) := ⟨_, rfl⟩
  have A1'' : ∃ b : Int32, g_Mo_areCodes_0 N 320 ln' 0 288 0 = some b ∧ (b = 1 ∧ P1 ∨ b = 0 ∧ ¬ P1) := by
    refine ⟨_, A1', ?_⟩
    by_cases q : P1
    · rw [if_pos (by rw [hp1] at q; exact q.elim Or.inl (fun z => Or.inr (Or.inl z)))]
      exact Or.inl ⟨rfl, q⟩
    · rw [if_neg (by
        rw [hp1] at q
        rintro (z | z | z)
        · exact q (Or.inl z)
        · exact q (Or.inr z)
        · exact z.2 rfl)]
      exact Or.inr ⟨rfl, q⟩
  have A2'' : ∃ b : Int32, g_Mo_areCodes_0 N 320 ln' 288 32 1 = some b ∧ (b = 1 ∧ (P2 ∨ cg (lB v (h + 257) d) 1 32 = 0) ∨ b = 0 ∧ ¬ (P2 ∨ cg (lB v (h + 257) d) 1 32 = 0)) := by
    refine ⟨_, A2', ?_⟩
    by_cases q : P2 ∨ cg (lB v (h + 257) d) 1 32 = 0
    · rw [if_pos (by
        rw [hp2] at q
        rcases q with (z | z) | z
        · exact Or.inl z
        · exact Or.inr (Or.inl z)
        · exact Or.inr (Or.inr ⟨z, by decide⟩))]
      exact Or.inl ⟨rfl, q⟩
    · rw [if_neg (by
        rw [hp2] at q
        rintro (z | z | z)
        · exact q (Or.inl (Or.inl z))
        · exact q (Or.inl (Or.inr z))
        · exact q (Or.inr z.1))]
      exact Or.inr ⟨rfl, q⟩
  obtain ⟨b1, A1s, A1c⟩ := A1''
  obtain ⟨b2, A2s, A2c⟩ := A2''
  have F1'' : ∃ b : Int32, g_ReadCodes_fit_0 N (nI (bf (lA v (h + 257)) (h + 257) 15)) (nI l1) 16 c1 = some b ∧ (b = 1 ∧ P1 ∨ b = 0 ∧ ¬ P1) := by
    by_cases q : P1
    · exact ⟨1, by rw [F1, if_pos (by rw [← hp1]; exact q)], Or.inl ⟨rfl, q⟩⟩
    · exact ⟨0, by rw [F1, if_neg (by rw [← hp1]; exact q)], Or.inr ⟨rfl, q⟩⟩
  have F2'' : ∃ b : Int32, g_ReadCodes_fit_0 N (nI (bf (lB v (h + 257) d) (d + 1) 15)) (nI l2) 16 c2 = some b ∧ (b = 1 ∧ P2 ∨ b = 0 ∧ ¬ P2) := by
    by_cases q : P2
    · exact ⟨1, by rw [F2, if_pos (by rw [← hp2]; exact q)], Or.inl ⟨rfl, q⟩⟩
    · exact ⟨0, by rw [F2, if_neg (by rw [← hp2]; exact q)], Or.inr ⟨rfl, q⟩⟩
  obtain ⟨d1, F1s, F1c⟩ := F1''
  obtain ⟨d2, F2s, F2c⟩ := F2''
  have CL : ∃ e : Nat, (e = 0 ∧ (P1 ∧ 0 < v 256 ∧ (P2 ∨ cg (lB v (h + 257) d) 1 32 = 0)) ∨ e = 7 ∧ ¬ (P1 ∧ 0 < v 256 ∧ (P2 ∨ cg (lB v (h + 257) d) 1 32 = 0))) ∧ g_Unpacker_readCodes_J1 N 316 16 288 16 288 (nI (h + 257)) (nI (d + 1)) 0 p fl lc lk ll ls m1 k1 t1 s1 m2 k2 t2 s2 = some (nI e, p, fl, lc, lk, ll, ls, c1, nI (bf (lA v (h + 257)) (h + 257) 15), nI l1, y1, c2, nI (bf (lB v (h + 257) d) (d + 1) 15), nI l2, y2) := by
    rw [g_Unpacker_readCodes_J1, if_pos rfl, e1', Option.bind_some, e2, Option.bind_some]
    dsimp only
    rw [if_neg (show ¬ ((256 : Int32) < 0 ∨ 316 ≤ (256 : Int32).toNatClampNeg) by decide), c256, v256]
    by_cases q0 : v 256 = 0
    · refine ⟨7, Or.inr ⟨rfl, fun z => by omega⟩, ?_⟩
      rw [q0, if_pos (show nI 0 ≤ 0 by decide)]; rfl
    · rw [if_neg (show ¬ nI (v 256) ≤ 0 from nI_nle (by omega) (by omega)), F1s, Option.bind_some]
      rcases F1c with ⟨rfl, q1⟩ | ⟨rfl, q1⟩
      · rw [if_neg (show ¬ (1 : Int32) = 0 by decide), F2s, Option.bind_some]
        rcases F2c with ⟨rfl, q2⟩ | ⟨rfl, q2⟩
        · refine ⟨0, Or.inl ⟨rfl, q1, by omega, Or.inl q2⟩, ?_⟩
          rw [if_neg (show ¬ (1 : Int32) = 0 by decide)]; rfl
        · rw [if_pos rfl, N2, Option.bind_some]
          by_cases q3 : cg (lB v (h + 257) d) 1 32 = 0
          · refine ⟨0, Or.inl ⟨rfl, q1, by omega, Or.inr q3⟩, ?_⟩
            rw [if_pos q3, if_neg (show ¬ (1 : Int32) = 0 by decide)]; rfl
          · refine ⟨7, Or.inr ⟨rfl, fun z => z.2.2.elim q2 q3⟩, ?_⟩
            rw [if_neg q3, if_pos rfl]; rfl
      · refine ⟨7, Or.inr ⟨rfl, fun z => q1 z.1⟩, ?_⟩
        rw [if_pos rfl]; rfl
  have MO : ∃ e : Nat, (e = 0 ∧ (P1 ∧ 0 < v 256 ∧ (P2 ∨ cg (lB v (h + 257) d) 1 32 = 0)) ∨ e = 7 ∧ ¬ (P1 ∧ 0 < v 256 ∧ (P2 ∨ cg (lB v (h + 257) d) 1 32 = 0))) ∧ g_Mo_readLengths_L4 N 320 320 N (nI h) (nI d) 0 0 p sm ln rw_ = some (nI e, p, sm, ln', rw_) := by
    have J11 : g_Mo_readLengths_J11 N 320 0 p sm ln' rw_ = some (nI 7, p, sm, ln', rw_) := by
      rw [g_Mo_readLengths_J11]
      show g_Mo_readLengths_J12 N 320 7 p sm ln' rw_ = _
      rw [g_Mo_readLengths_J12, if_neg (by decide)]; rfl
    rw [eL', g_Mo_readLengths_J10, if_pos rfl, A1s, Option.bind_some]
    rcases A1c with ⟨rfl, q1⟩ | ⟨rfl, q1⟩
    · rw [if_neg (show ¬ (1 : Int32) = 0 by decide), if_neg (show ¬ ((256 : Int32) < 0 ∨ 320 ≤ (256 : Int32).toNatClampNeg) by decide), c256, w256]
      by_cases q0 : v 256 = 0
      · exact ⟨7, Or.inr ⟨rfl, fun z => by omega⟩, by rw [q0, if_pos (show nI 0 = 0 by decide)]; exact J11⟩
      · rw [if_neg (by rw [z_0, nI_eq (by omega) (by omega)]; exact q0), g_Mo_readLengths_J12, if_pos rfl, A2s, Option.bind_some]
        rcases A2c with ⟨rfl, q2⟩ | ⟨rfl, q2⟩
        · exact ⟨0, Or.inl ⟨rfl, q1, by omega, q2⟩, by rw [if_neg (show ¬ (1 : Int32) = 0 by decide)]; rfl⟩
        · exact ⟨7, Or.inr ⟨rfl, fun z => q2 z.2.2⟩, by rw [if_pos rfl]; rfl⟩
    · exact ⟨7, Or.inr ⟨rfl, fun z => q1 z.1⟩, by rw [if_pos rfl]; exact J11⟩
  obtain ⟨e, he, hC⟩ := CL
  obtain ⟨e', he', hM⟩ := MO
  have ee : e' = e := by
    rcases he with ⟨q, w⟩ | ⟨q, w⟩ <;> rcases he' with ⟨q', w'⟩ | ⟨q', w'⟩
    · omega
    · exact absurd w w'
    · exact absurd w' w
    · omega
  subst ee
  refine ⟨e', c1, y1, c2, y2, ln', _, _, _, _, by rcases he with ⟨q, -⟩ | ⟨q, -⟩ <;> omega, hC, hM, fun z => ?_⟩
  rcases he with ⟨-, w1, w2, w3⟩ | ⟨q, -⟩
  · refine ⟨_, _, l1, l2, m1', m2', ?_, ?_, R1', R2'⟩
    · rw [hp1] at w1
      exact w1.elim Or.inl (fun z => Or.inr (Or.inl z))
    · rw [hp2] at w3
      rcases w3 with (z | z) | z
      · exact Or.inl z
      · exact Or.inr (Or.inl z)
      · exact Or.inr (Or.inr z)
  · omega
