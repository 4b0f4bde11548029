theorem sim_bit {fo go : Nat → Int32} {p v N : Nat} (h : wr fo go p) (hv : v < 2) (hp : p < 72000) (hN : 100000 ≤ N) : ∃ fo' go', wr fo' go' (p + 1) ∧ g_Row_putNumber_0 N 9000 (nI v) 1 fo (nI ((p + 7) / 8)) (nI p) = some (fo', nI ((p + 1 + 7) / 8), nI (p + 1)) ∧ g_Mo_writeBit_0 9000 (nI v) go (nI ((p + 7) / 8)) (nI p) = some (go', nI ((p + 1 + 7) / 8), nI (p + 1)) := by
  obtain ⟨fo', go', w, e1, e2⟩ := put_bit h hp hv
  obtain ⟨q, rfl⟩ : ∃ q, N = q + 1 + 1 := ⟨N - 2, by omega⟩
  refine ⟨fo', go', w, ?_, e2⟩
  have hb : (nI v >>> ((0 : Int32) &&& 31)) &&& 1 = nI v := by
    have : v = 0 ∨ v = 1 := by omega
    rcases this with rfl | rfl <;> decide
  have r := e1 (q + 1) (nI v) 1 0 (by decide) hb
  have r2 : g_Row_putNumber_0 (q + 1 + 1) 9000 (nI v) 1 fo (nI ((p + 7) / 8)) (nI p) = _ := r
  rw [r2, g_Row_putNumber_L1, if_pos (by decide)]
/-- the bits from the third after p to the next whole byte -/
def pd (p : Nat) : Nat := (13 - p % 8) % 8
theorem pd_cls {p : Nat} (hp : p ≤ 72000) : (-(nI p + 3)) &&& (7 : Int32) = nI (pd p) := by
  have e : nI p + 3 = nI (p + 3) := nI_add p 3
  have e2 : (-(nI (p + 3))).toBitVec.toNat = 2 ^ 32 - (p + 3) := by
    show ((-(BitVec.ofNat 32 (p + 3))).toNat) = _
    rw [BitVec.toNat_neg, BitVec.toNat_ofNat]
    omega
  rw [e, pk_and _ 3 (by decide), e2]
  unfold pd
  congr 1
  omega
theorem pd_ref {p : Nat} (hp : p ≤ 72000) : ((13 : Int32) - (nI p - nI p / (8 : Int32) * (8 : Int32))) - ((13 : Int32) - (nI p - nI p / (8 : Int32) * (8 : Int32))) / (8 : Int32) * (8 : Int32) = nI (pd p) := by
  have e : (13 : Int32) - nI (p % 8) = nI (13 - p % 8) := pk_sub (a := 13) (by omega)
  rw [nI_rem8 (by omega), e, nI_rem8 (by omega)]
  rfl
theorem pd_end {p : Nat} : (p + 1 + 2 + 7) / 8 * 8 = p + 3 + pd p := by
  unfold pd
  omega
theorem bT_le {it A V : Nat → Int32} {len1 len2 : Nat → Nat} {k : Nat} (h : tk k it A V) (h1 : ∀ s, s < 288 → len1 s ≤ 15) (h2 : ∀ s, s < 30 → len2 s ≤ 15) : ∀ j, j ≤ k → bT A V len1 len2 j ≤ 48 * j := by
  intro j
  induction j with
  | zero => intro _; exact Nat.le_refl _
  | succ j ih =>
    intro hj
    have := ih (by omega)
    show bT A V len1 len2 j + tw A V len1 len2 j ≤ _
    rcases tok_in h (show j < k by omega) with ⟨v, hv, a0, v0, i0, s0, d0, az⟩ | ⟨l, v, l1, l2, v1, v2, a0, v0, i0, s0, d0, an⟩
    · have et : tw A V len1 len2 j = len1 v := by unfold tw; rw [if_pos az, s0]
      have := h1 v (by omega)
      omega
    · have et : tw A V len1 len2 j = len1 (lS l) + eS (lS l) + (len2 (dS v) + eD (dS v)) := by unfold tw; rw [if_neg an, s0, d0]
      obtain ⟨ls1, ls2⟩ := lS_in l1 l2
      obtain ⟨ds1, _, _⟩ := dS_in v1 v2
      obtain ⟨_, _, _, _, g5⟩ := eSl ls1 ls2
      obtain ⟨_, _, _, _, h5, _⟩ := eD_ok (dS v) (by omega)
      have := h1 (lS l) (by omega)
      have := h2 (dS v) (by omega)
      omega
theorem sT_le {it mo cc st sm sc : Nat → Int32} {len : Nat → Nat} {k : Nat} (h : ti k it mo cc st sm sc) (h1 : ∀ s, len s ≤ 7) : ∀ j, j ≤ k → sT st len j ≤ 14 * j := by
  intro j
  induction j with
  | zero => intro _; exact Nat.le_refl _
  | succ j ih =>
    intro hj
    have := ih (by omega)
    obtain ⟨s, hs, i1, i2, i3⟩ := h.1 j (by omega)
    show sT st len j + (len (st j).toNatClampNeg + exb (st j).toNatClampNeg) ≤ _
    rw [i2, nI_clamp (n := s) (by omega)]
    have := h1 s
    have := exb_le s hs
    omega
theorem steps_loop {N k kk B : Nat} {A V gi cu or_ ln ls br li is la sc st sm sl_ rw_ go td tit mo cc : Nat → Int32} {x1 x2 x3 x4 x5 x6 os ba : Int32} {len3 : Nat → Nat} (hkk : kk ≤ 316) (ht : ti kk tit mo cc st sm sc) (m3 : mt sl_ 0 19 len3) : ∀ (d j M : Nat), j + d = kk → d < M → ∃ M2, g_Mo_packPart_L4 N (nI k) 4096 A 4096 V 320 320 320 320 19 9000 8 8192 gi M x1 x2 x3 x4 x5 x6 (nI (B + sT st len3 j)) (nI j) cu or_ ln ls br li is la (nI kk) sc st sm sl_ rw_ go os ba td = g_Mo_packPart_L4 N (nI k) 4096 A 4096 V 320 320 320 320 19 9000 8 8192 gi (M2 + 1) x1 x2 x3 x4 x5 x6 (nI (B + sT st len3 kk)) (nI kk) cu or_ ln ls br li is la (nI kk) sc st sm sl_ rw_ go os ba td := by
  intro d
  induction d with
  | zero =>
    intro j M hj hM
    obtain ⟨q, rfl⟩ := succ_of hM
    have e : j = kk := by omega
    subst e
    exact ⟨q, rfl⟩
  | succ d ih =>
    intro j M hj hM
    obtain ⟨q, rfl⟩ := succ_of hM
    obtain ⟨M2, r⟩ := ih (j + 1) q (by omega) (by omega)
    refine ⟨M2, ?_⟩
    obtain ⟨s, hs, i1, i2, i3⟩ := ht.1 j (by omega)
    obtain ⟨g1, _⟩ := m3 s hs
    rw [Nat.zero_add] at g1
    have eb : B + sT st len3 (j + 1) = B + sT st len3 j + len3 s + exb s := by
      show B + (sT st len3 j + (len3 (st j).toNatClampNeg + exb (st j).toNatClampNeg)) = _
      rw [i2, nI_clamp (n := s) (by omega)]; omega
    rw [← r, g_Mo_packPart_L4, if_neg (nI_ge (by omega) (by omega)), if_neg (nI_in (by omega) (by omega)), nI_clamp (n := j) (by omega), i2, if_neg (nI_in (by omega) (by omega)), nI_clamp (n := s) (by omega), stb_ok s hs, Option.bind_some, g1, nI_add, nI_add, nI_1, eb]
theorem back_loop {N k : Nat} {A V cu or_ ls br li is la sc st sm sl_ rw_ go td : Nat → Int32} {x4 x5 x6 sp os ba : Int32} : ∀ (d j : Nat) (ln : Nat → Int32) (M : Nat), j + d = 320 → d < M → (∀ t, t < j → ln t = la t) → ∃ (ln' : Nat → Int32) (M2 : Nat), (∀ t, t < 320 → ln' t = la t) ∧ g_Mo_packPart_L5 N (nI k) 4096 A 4096 V 320 320 320 320 19 9000 M x4 x5 x6 (nI j) cu or_ ln ls br li is la sp sc st sm sl_ rw_ go os ba td = g_Mo_packPart_L5 N (nI k) 4096 A 4096 V 320 320 320 320 19 9000 (M2 + 1) x4 x5 x6 (nI 320) cu or_ ln' ls br li is la sp sc st sm sl_ rw_ go os ba td := by
  intro d
  induction d with
  | zero =>
    intro j ln M hj hM h
    obtain ⟨q, rfl⟩ := succ_of hM
    have e : j = 320 := by omega
    subst e
    exact ⟨ln, q, h, rfl⟩
  | succ d ih =>
    intro j ln M hj hM h
    obtain ⟨q, rfl⟩ := succ_of hM
    obtain ⟨ln', M2, h', r⟩ := ih (j + 1) (upd ln j (la j)) q (by omega) (by omega) (fun t ht => by
      by_cases c : t = j
      · subst c; exact pk_us
      · rw [pk_un c]; exact h t (by omega))
    refine ⟨ln', M2, h', ?_⟩
    rw [← r, g_Mo_packPart_L5, if_neg (show ¬ (320 : Int32) ≤ nI j from nI_ge (b := 320) (by omega) (by omega)), if_neg (nI_in (by omega) (by omega)), if_neg (nI_in (by omega) (by omega)), nI_clamp (n := j) (by omega), nI_1]
/-- the fixed lengths of the distances, as the class holds them -/
def fD2 (s : Nat) : Nat := if s < 32 then 5 else 0
theorem fD2_of {ln : Nat → Int32} (h : mt ln 288 32 fD) : mt ln 288 32 fD2 := by
  intro s hs
  have := h s hs
  unfold fD at this
  unfold fD2
  rw [if_pos hs]
  exact this
theorem blk_cls {N k kk h d c m fr n p : Nat} {A V sC dC fsl fdl cc cl ms md f tit mo st sm sc it fst fdt fo mst mdt tct : Nat → Int32} {vst vmd vfx : Int32} {len1 len2 len3 : Nat → Nat} (hN : 100000 ≤ N) (ht : tk k it A V) (hks : ks sC dC A V k) (a1 : mt fsl 0 288 fL) (a2 : mt fdl 0 288 fD2) (b1 : mt ms 0 288 len1) (b2 : mt md 0 288 len2) (b3 : mt cl 0 288 len3) (hti : ti kk tit mo cc st sm sc) (hm : m ≤ 8192) (hn : fr + n ≤ m) (hp : p ≤ 72000) : g_Packer_writeBlock_0 N (nI k) 286 sC 288 fsl 30 dC 288 fdl (nI kk) (nI h) (nI d) (nI c) 19 cc 288 cl 288 ms 288 md (nI m) 9000 9000 f 288 288 288 316 tit 316 mo 4096 it 288 fst 288 fdt (nI fr) (nI (fr + n)) fo (nI ((p + 7) / 8)) (nI p) vst vmd mst mdt tct vfx = g_Packer_writeBlock_J1 N (nI k) 288 fsl 288 fdl (nI kk) (nI h) (nI d) (nI c) 288 cl 288 ms 288 md (nI m) 9000 9000 f 288 288 288 316 tit 316 mo 4096 it 288 fst 288 fdt (nI fr) (nI (fr + n)) (nI (pd p + 32 + 8 * n)) (nI (fL 256 + bT A V fL fD2 k)) (nI (14 + 3 * c + sT st len3 kk + (len1 256 + bT A V len1 len2 k))) (nI (if fr + n = m then 1 else 0)) fo (nI ((p + 7) / 8)) (nI p) vst vmd mst mdt tct vfx := by
  have s1 : nI (fr + n) - nI fr = nI n := by rw [pk_sub (by omega)]; congr 1; omega
  have s2 : nI (pd p) + (32 : Int32) + (8 : Int32) * nI n = nI (pd p + 32 + 8 * n) := by
    have x1 : (8 : Int32) * nI n = nI (8 * n) := pk_mul 8 n
    have x2 : nI (pd p) + (32 : Int32) = nI (pd p + 32) := nI_add _ 32
    rw [x1, x2, nI_add]
  rw [g_Packer_writeBlock_0, bits_cls hN ht hks a1 a2, Option.bind_some, tbits_cls hN hti b3, Option.bind_some, bits_cls hN ht hks b1 b2, Option.bind_some, pd_cls hp, s1, s2, nI_add]
  by_cases z : fr + n = m
  · rw [if_pos (by rw [z]), if_pos z]; rfl
  · rw [if_neg (by rw [nI_eq (by omega) (by omega)]; exact z), if_neg z]; rfl
theorem blk_ref {N k kk h d c m fr n p : Nat} {A V gi it cc tit mo cu or_ ln ls br li is la sc st sm sl_ rw_ go td : Nat → Int32} {x3 os : Int32} {len1 len2 len3 : Nat → Nat} (hN : 100000 ≤ N) (hk : k ≤ 4096) (ht : tk k it A V) (m1 : mt ln 0 288 len1) (m2 : mt ln 288 32 len2) (m3 : mt sl_ 0 19 len3) (hkk : kk ≤ 316) (hti : ti kk tit mo cc st sm sc) (hx : x3 = 0 ↔ ¬ fr + n = m) (hp : p ≤ 72000) : ∃ ln', mt ln' 0 288 fL ∧ mt ln' 288 32 fD2 ∧ g_Mo_packPart_J2 N (nI k) 4096 A 4096 V 320 320 320 320 19 9000 8 8192 gi (nI fr) (nI (fr + n)) x3 (nI h) (nI d) (nI c) cu or_ ln ls br li is la (nI kk) sc st sm sl_ rw_ go os (nI p) td = g_Mo_packPart_J3 N (nI k) 4096 A 4096 V 320 320 320 320 19 9000 8 8192 gi (nI fr) (nI (fr + n)) (nI h) (nI d) (nI c) (nI (3 + (14 + 3 * c + sT st len3 kk + (len1 256 + bT A V len1 len2 k)))) (nI (3 + (fL 256 + bT A V fL fD2 k))) (nI (3 + (pd p + 32 + 8 * n))) (nI (if fr + n = m then 1 else 0)) cu or_ ln' ls br li is la (nI kk) sc st sm sl_ rw_ go os (nI p) td := by
  obtain ⟨ln', f1, f2, f3⟩ := fixed_ok hN ln
  have f3' := fD2_of f3
  obtain ⟨M2, r⟩ := steps_loop (N := N) (k := k) (B := 17 + 3 * c + (len1 256 + bT A V len1 len2 k)) (A := A) (V := V) (gi := gi) (cu := cu) (or_ := or_) (ln := ln) (ls := ls) (br := br) (li := li) (is := is) (la := la) (rw_ := rw_) (go := go) (td := td) (x1 := nI fr) (x2 := nI (fr + n)) (x3 := x3) (x4 := nI h) (x5 := nI d) (x6 := nI c) (os := os) (ba := nI p) hkk hti m3 kk 0 N (by omega) (by omega)
  refine ⟨ln', f2, f3', ?_⟩
  have s0 : (17 : Int32) + (3 : Int32) * nI c + nI (len1 256 + bT A V len1 len2 k) = nI (17 + 3 * c + (len1 256 + bT A V len1 len2 k) + sT st len3 0) := by
    have x1 : (3 : Int32) * nI c = nI (3 * c) := pk_mul 3 c
    have x2 : (17 : Int32) + nI (3 * c) = nI (17 + 3 * c) := nI_add 17 _
    rw [x1, x2, nI_add]; rfl
  have s1 : nI (fr + n) - nI fr = nI n := by rw [pk_sub (by omega)]; congr 1; omega
  have s2 : (3 : Int32) + nI (pd p) + (32 : Int32) + (8 : Int32) * nI n = nI (3 + (pd p + 32 + 8 * n)) := by
    have x0 : (3 : Int32) + nI (pd p) = nI (3 + pd p) := nI_add 3 _
    have x1 : (8 : Int32) * nI n = nI (8 * n) := pk_mul 8 n
    have x2 : nI (3 + pd p) + (32 : Int32) = nI (3 + pd p + 32) := nI_add _ 32
    rw [x0, x1, x2, nI_add]; congr 1; omega
  have s3 : (3 : Int32) + nI (fL 256 + bT A V fL fD2 k) = nI (3 + (fL 256 + bT A V fL fD2 k)) := nI_add 3 _
  have s4 : 17 + 3 * c + (len1 256 + bT A V len1 len2 k) + sT st len3 kk = 3 + (14 + 3 * c + sT st len3 kk + (len1 256 + bT A V len1 len2 k)) := by omega
  have r' : g_Mo_packPart_L4 N (nI k) 4096 A 4096 V 320 320 320 320 19 9000 8 8192 gi N (nI fr) (nI (fr + n)) x3 (nI h) (nI d) (nI c) (nI (17 + 3 * c + (len1 256 + bT A V len1 len2 k) + sT st len3 0)) 0 cu or_ ln ls br li is la (nI kk) sc st sm sl_ rw_ go os (nI p) td = _ := r
  rw [g_Mo_packPart_J2, bits_ref hN hk ht m1 m2, Option.bind_some, s0, r', g_Mo_packPart_L4, if_pos (nI_le (by omega) (by omega)), f1, Option.bind_some, bits_ref hN hk ht f2 f3', Option.bind_some, pd_ref hp, s1, s2, s3, s4]
  by_cases z : fr + n = m
  · rw [if_neg (fun y => (hx.mp y) z), if_pos z]; rfl
  · rw [if_pos (hx.mpr z), if_neg z]; rfl
