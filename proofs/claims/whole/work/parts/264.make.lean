theorem lat_loop {N k : Nat} {A V gi cu or_ ln ls br li is sc st sm sl_ rw_ go td : Nat → Int32} {x1 x2 x3 sp os ba : Int32} : ∀ (d j : Nat) (la : Nat → Int32) (M : Nat), j + d = 320 → d < M → (∀ t, t < j → la t = ln t) → ∃ (la' : Nat → Int32) (M2 : Nat), (∀ t, t < 320 → la' t = ln t) ∧ g_Mo_packPart_L1 N (nI k) 4096 A 4096 V 288 320 15 600 600 9000 320 19 320 320 320 19 9000 8 8192 gi M x1 x2 x3 (nI j) cu or_ ln ls br li is la sp sc st sm sl_ rw_ go os ba td = g_Mo_packPart_L1 N (nI k) 4096 A 4096 V 288 320 15 600 600 9000 320 19 320 320 320 19 9000 8 8192 gi (M2 + 1) x1 x2 x3 (nI 320) cu or_ ln ls br li is la' sp sc st sm sl_ rw_ go os ba td := by
  intro d
  induction d with
  | zero =>
    intro j la M hj hM h
    obtain ⟨q, rfl⟩ := succ_of hM
    have e : j = 320 := by omega
    subst e
    exact ⟨la, q, h, rfl⟩
  | succ d ih =>
    intro j la M hj hM h
    obtain ⟨q, rfl⟩ := succ_of hM
    obtain ⟨la', M2, h', r⟩ := ih (j + 1) (upd la j (ln j)) q (by omega) (by omega) (fun t ht => by
      by_cases c : t = j
      · subst c; exact pk_us
      · rw [pk_un c]; exact h t (by omega))
    refine ⟨la', M2, h', ?_⟩
    rw [← r, g_Mo_packPart_L1, if_neg (show ¬ (320 : Int32) ≤ nI j from nI_ge (b := 320) (by omega) (by omega)), if_neg (nI_in (by omega) (by omega)), if_neg (nI_in (by omega) (by omega)), nI_clamp (n := j) (by omega), nI_1]
/-- the lengths of both codes in one row -/
def rx (h : Nat) (len1 len2 : Nat → Nat) (j : Nat) : Nat := if j < h then len1 j else len2 (j - h)
theorem rowr_loop {N k h d : Nat} {A V gi cu or_ ln ls br li is la sc st sm sl_ go td : Nat → Int32} {x1 x2 x3 sp os ba : Int32} {len1 len2 : Nat → Nat} (hh : h ≤ 286) (hd : d ≤ 30) (m1 : mt ln 0 288 len1) (m2 : mt ln 288 32 len2) : ∀ (e j : Nat) (rw_ : Nat → Int32) (M : Nat), j + e = h + d → e < M → (∀ t, t < j → rw_ t = nI (rx h len1 len2 t)) → ∃ (rw' : Nat → Int32) (M2 : Nat), (∀ t, t < h + d → rw' t = nI (rx h len1 len2 t)) ∧ g_Mo_packPart_L2 N (nI k) 4096 A 4096 V 288 320 15 600 600 9000 320 19 320 320 320 19 9000 8 8192 gi M x1 x2 x3 (nI h) (nI d) (nI j) cu or_ ln ls br li is la sp sc st sm sl_ rw_ go os ba td = g_Mo_packPart_L2 N (nI k) 4096 A 4096 V 288 320 15 600 600 9000 320 19 320 320 320 19 9000 8 8192 gi (M2 + 1) x1 x2 x3 (nI h) (nI d) (nI (h + d)) cu or_ ln ls br li is la sp sc st sm sl_ rw' go os ba td := by
  intro e
  induction e with
  | zero =>
    intro j rw_ M hj hM h
    obtain ⟨q, rfl⟩ := succ_of hM
    have e : j = _ := hj
    subst e
    exact ⟨rw_, q, h, rfl⟩
  | succ e ih =>
    intro j rw_ M hj hM hr
    obtain ⟨q, rfl⟩ := succ_of hM
    obtain ⟨rw', M2, h', r⟩ := ih (j + 1) (upd rw_ j (nI (rx h len1 len2 j))) q (by omega) (by omega) (fun t ht => by
      by_cases c : t = j
      · subst c; exact pk_us
      · rw [pk_un c]; exact hr t (by omega))
    refine ⟨rw', M2, h', ?_⟩
    rw [← r, g_Mo_packPart_L2, nI_add, if_neg (nI_ge (a := j) (b := h + d) (by omega) (by omega))]
    by_cases c : j < h
    · have e1 : rx h len1 len2 j = len1 j := if_pos c
      obtain ⟨g1, _⟩ := m1 j (by omega)
      rw [Nat.zero_add] at g1
      rw [if_neg (nI_ge c (by omega)), if_neg (nI_in (by omega) (by omega)), nI_clamp (n := j) (by omega), g_Mo_packPart_J1, if_neg (nI_in (by omega) (by omega)), nI_clamp (n := j) (by omega), nI_1, e1, g1]
    · have e1 : rx h len1 len2 j = len2 (j - h) := if_neg c
      obtain ⟨g1, _⟩ := m2 (j - h) (by omega)
      have e2 : (288 : Int32) + nI j - nI h = nI (288 + (j - h)) := by
        have : (288 : Int32) + nI j = nI (288 + j) := nI_add 288 j
        rw [this, pk_sub (by omega), show 288 + j - h = 288 + (j - h) by omega]
      rw [if_pos (nI_le (by omega) (by omega)), e2, if_neg (nI_in (by omega) (by omega)), nI_clamp (n := 288 + (j - h)) (by omega), g_Mo_packPart_J1, if_neg (nI_in (by omega) (by omega)), nI_clamp (n := j) (by omega), nI_1, e1, g1]
theorem c_cls {cl : Nat → Int32} {len : Nat → Nat} {r1 r2 r5 : Int32} {row cc it mo oc pr rr2 rr1 : Nat → Int32} (h : mt cl 0 288 len) : ∀ (d i M : Nat), 4 + i + d = 19 → d < M → g_Tale_make_L1 288 M (nI (4 + i)) r1 r2 row r5 cc it mo cl oc pr rr2 rr1 (nI (nd (fun i => len (ord i)) 4 i)) = some (r1, r2, row, r5, cc, it, mo, cl, oc, pr, rr2, rr1, nI (nd (fun i => len (ord i)) 4 (i + d))) := by
  intro d
  induction d with
  | zero =>
    intro i M hi hM
    obtain ⟨q, rfl⟩ := succ_of hM
    rw [g_Tale_make_L1, if_pos (show (19 : Int32) ≤ nI (4 + i) from nI_le (a := 19) (by omega) (by omega)), Nat.add_zero]
  | succ d ih =>
    intro i M hi hM
    obtain ⟨q, rfl⟩ := succ_of hM
    obtain ⟨o1, o2⟩ := ord_lt (4 + i) (by omega)
    obtain ⟨h1, h2⟩ := h (ord (4 + i)) (by omega)
    rw [Nat.zero_add] at h1
    have r := ih (i + 1) q (by omega) (by omega)
    rw [g_Tale_make_L1, if_neg (show ¬ (19 : Int32) ≤ nI (4 + i) from nI_ge (b := 19) (by omega) (by omega)), if_neg (nI_in (by omega) (by omega)), nI_clamp (n := 4 + i) (by omega), o2, if_neg (nI_in (by omega) (by omega)), nI_clamp (n := ord (4 + i)) (by omega), h1, nI_1, show i + (d + 1) = i + 1 + d by omega, ← r]
    have e : nd (fun i => len (ord i)) 4 (i + 1) = (if len (ord (4 + i)) = 0 then nd (fun i => len (ord i)) 4 i else 4 + i + 1) := rfl
    rw [e]
    by_cases c : len (ord (4 + i)) = 0
    · rw [if_pos (by rw [c]; decide), if_pos c]; rfl
    · rw [if_neg (nI_nle (by omega) (by omega)), if_neg c]; rfl
theorem c_ref {N k : Nat} {A V gi cu or_ ln ls br li is la sc st sm sl_ rw_ go td : Nat → Int32} {x1 x2 x3 x4 x5 sp os ba : Int32} {len : Nat → Nat} (h : ∀ t, t < 19 → sl_ t = nI (len t) ∧ len t ≤ 15) : ∀ (d M : Nat), d ≤ 15 → d < M → g_Mo_packPart_L3 N (nI k) 4096 A 4096 V 320 320 320 320 19 9000 8 8192 gi M x1 x2 x3 x4 x5 (nI (4 + d)) cu or_ ln ls br li is la sp sc st sm sl_ rw_ go os ba td = g_Mo_packPart_J2 N (nI k) 4096 A 4096 V 320 320 320 320 19 9000 8 8192 gi x1 x2 x3 x4 x5 (nI (nd (fun i => len (ord i)) 4 d)) cu or_ ln ls br li is la sp sc st sm sl_ rw_ go os ba td := by
  intro d
  induction d with
  | zero =>
    intro M hd hM
    obtain ⟨q, rfl⟩ := succ_of hM
    rw [g_Mo_packPart_L3, if_pos (show nI (4 + 0) ≤ (4 : Int32) by decide)]; rfl
  | succ d ih =>
    intro M hd hM
    obtain ⟨q, rfl⟩ := succ_of hM
    obtain ⟨o1, o2⟩ := ord_lt (4 + d) (by omega)
    obtain ⟨h1, h2⟩ := h (ord (4 + d)) (by omega)
    rw [g_Mo_packPart_L3, if_neg (show ¬ nI (4 + (d + 1)) ≤ (4 : Int32) from nI_ge (a := 4) (by omega) (by omega)), show 4 + (d + 1) = 4 + d + 1 by omega, nI_pred, so_ok (4 + d) (by omega), Option.bind_some, o2, if_neg (nI_in (by omega) (by omega)), nI_clamp (n := ord (4 + d)) (by omega), h1, pk_m1]
    have e : nd (fun i => len (ord i)) 4 (d + 1) = (if len (ord (4 + d)) = 0 then nd (fun i => len (ord i)) 4 d else 4 + d + 1) := rfl
    rw [e]
    by_cases c : len (ord (4 + d)) = 0
    · rw [if_pos (by rw [c]; rfl), if_pos c]
      exact ih q (by omega) (by omega)
    · rw [if_neg (nI_ne0 (by omega) (by omega)), if_neg c]
theorem sim_make {N k : Nat} {A V gi cu or_ ln ls br li is la sc0 st0 sm0 sl0 rw_ go td ms md frow fcc fit fmo fcl oc0 pr0 r20 r10 : Nat → Int32} {x1 x2 x3 sp os ba vs vd vi vlc : Int32} {len1 len2 : Nat → Nat} (hN : 100000 ≤ N) (c1 : mt ms 0 288 len1) (c2 : mt md 0 288 len2) (m1 : mt ln 0 288 len1) (m2 : mt ln 288 32 len2) : ∃ (h d c kk : Nat) (len3 : Nat → Nat) (rowc it mo cc cl oc pr r2 r1 la' rw' st sm sc sl' or' ls' br' li' is' : Nat → Int32), 257 ≤ h ∧ h ≤ 286 ∧ 1 ≤ d ∧ d ≤ 30 ∧ 4 ≤ c ∧ c ≤ 19 ∧ kk ≤ 316 ∧ ti kk it mo cc st sm sc ∧ mt cl 0 288 len3 ∧ mt sl' 0 19 len3 ∧ (∀ t, len3 t ≤ 7) ∧ (∀ t, 19 ≤ t → len3 t = 0) ∧ (∀ t, t < 320 → la' t = ln t) ∧ g_Tale_make_0 N 288 ms 288 md 316 19 316 316 288 286 572 572 572 vs vd frow vi fcc fit fmo fcl oc0 pr0 r20 r10 vlc = some (nI h, nI d, rowc, nI kk, cc, it, mo, cl, oc, pr, r2, r1, nI c) ∧ g_Mo_packPart_L1 N (nI k) 4096 A 4096 V 288 320 15 600 600 9000 320 19 320 320 320 19 9000 8 8192 gi N x1 x2 x3 0 cu or_ ln ls br li is la sp sc0 st0 sm0 sl0 rw_ go os ba td = g_Mo_packPart_J2 N (nI k) 4096 A 4096 V 320 320 320 320 19 9000 8 8192 gi x1 x2 x3 (nI h) (nI d) (nI c) cu or' ln ls' br' li' is' la' (nI kk) sc st sm sl' rw' go os ba td := by
  obtain ⟨hh1, hh2⟩ := nd_in len1 257 29
  obtain ⟨hd1, hd2⟩ := nd_in len2 1 29
  have n1 := need_cls (fl := ms) (len := len1) (least := 257) (most := 286) (n1 := 288) (fun t ht => by have := c1 t (by omega); rw [Nat.zero_add] at this; exact this) (by omega) (by omega) 29 0 N (by omega) (by omega)
  have n2 := need_cls (fl := md) (len := len2) (least := 1) (most := 30) (n1 := 288) (fun t ht => by have := c2 t (by omega); rw [Nat.zero_add] at this; exact this) (by omega) (by omega) 29 0 N (by omega) (by omega)
  have n3 := need_ref (to := ln) (len := len1) (least := 257) (a := 0) (n1 := 320) (by omega) (by omega) (by omega) (by omega) 29 N (by omega) (by omega) (by omega) (fun t ht => m1 t (by omega))
  have n4 := need_ref (to := ln) (len := len2) (least := 1) (a := 288) (n1 := 320) (by omega) (by omega) (by omega) (by omega) 29 N (by omega) (by omega) (by omega) (fun t ht => m2 t (by omega))
  rw [Nat.zero_add] at n1 n2
  generalize nd len1 257 29 = h at hh1 hh2 n1 n3
  generalize nd len2 1 29 = d at hd1 hd2 n2 n4
  obtain ⟨la', Ma, hla, ea⟩ := lat_loop (N := N) (k := k) (A := A) (V := V) (gi := gi) (cu := cu) (or_ := or_) (ln := ln) (ls := ls) (br := br) (li := li) (is := is) (sc := sc0) (st := st0) (sm := sm0) (sl_ := sl0) (rw_ := rw_) (go := go) (td := td) (x1 := x1) (x2 := x2) (x3 := x3) (sp := sp) (os := os) (ba := ba) 320 0 la N (by omega) (by omega) (fun t ht => absurd ht (Nat.not_lt_zero t))
  obtain ⟨rw', Mb, hrw, eb⟩ := rowr_loop (N := N) (k := k) (h := h) (d := d) (A := A) (V := V) (gi := gi) (cu := cu) (or_ := or_) (ls := ls) (br := br) (li := li) (is := is) (la := la') (sc := sc0) (st := st0) (sm := sm0) (sl_ := sl0) (go := go) (td := td) (x1 := x1) (x2 := x2) (x3 := x3) (sp := sp) (os := os) (ba := ba) (by omega) (by omega) m1 m2 (h + d) 0 rw_ N (by omega) (by omega) (fun t ht => absurd ht (Nat.not_lt_zero t))
  have hx : ∀ j, j < h + d → va_cpy md (va_cpy ms frow 0 0 h) 0 h d j = nI (rx h len1 len2 j) ∧ rw' j = nI (rx h len1 len2 j) ∧ rx h len1 len2 j < 16 := by
    intro j hj
    refine ⟨?_, hrw j hj, ?_⟩
    · by_cases c : j < h
      · have e1 : rx h len1 len2 j = len1 j := if_pos c
        obtain ⟨g1, _⟩ := c1 j (by omega)
        rw [pk_cpy_out (Or.inl c), pk_cpy_in (Nat.zero_le _) (by omega), e1, Nat.sub_zero]; exact g1
      · have e1 : rx h len1 len2 j = len2 (j - h) := if_neg c
        obtain ⟨g1, _⟩ := c2 (j - h) (by omega)
        rw [pk_cpy_in (by omega) (by omega), e1]; exact g1
    · by_cases c : j < h
      · have e1 : rx h len1 len2 j = len1 j := if_pos c
        rw [e1]; have := (c1 j (by omega)).2; omega
      · have e1 : rx h len1 len2 j = len2 (j - h) := if_neg c
        rw [e1]; have := (c2 (j - h) (by omega)).2; omega
  obtain ⟨kk, it, mo, cc, st, sm, sc, hkk, hti, er1, er2⟩ := sim_row (N := N) (n := h + d) (it := fit) (mo := fmo) (cc := fcc) (st := st0) (sm := sm0) (sc := sc0) (v0 := vi) (v1 := sp) hN (by omega) (by omega) hx
  obtain ⟨len3, cl, oc, pr, r2, r1, or', sl', ls', br', li', is', f1, f2, f3, f4, f5, e1, e2⟩ := sim_lengths (fc := cc) (fr := sc) (fl := fcl) (oc := oc0) (pr := pr0) (r2 := r20) (r1 := r10) (or_ := or_) (to := sl0) (ls := ls) (br := br) (li := li) (is := is) (n := 19) (n' := 19) (n1 := 19) (n1' := 19) (n5 := 19) (a := 0) (N := N) (L := 7) (by omega) (by omega) (by omega) (by omega) (by omega) (by omega) (by omega) (by omega) (by omega) hN (by omega) (by omega) (fun m hm => sz7 m (by omega)) (fun t ht => by rw [Nat.zero_add]; exact (hti.2 t ht).1.trans (hti.2 t ht).2.symm) (fun t h1 h2 => by omega)
  have hsl : mt sl' 0 19 len3 := fun t ht => ⟨f2 t ht, by have := f3 t; omega⟩
  have hsl2 : ∀ t, t < 19 → sl' t = nI (len3 t) ∧ len3 t ≤ 15 := fun t ht => by have := hsl t ht; rw [Nat.zero_add] at this; exact this
  obtain ⟨hc1, hc2⟩ := nd_in (fun i => len3 (ord i)) 4 15
  refine ⟨h, d, nd (fun i => len3 (ord i)) 4 15, kk, len3, va_cpy md (va_cpy ms frow 0 0 h) 0 h d, it, mo, cc, cl, oc, pr, r2, r1, la', rw', st, sm, sc, sl', or', ls', br', li', is', by omega, by omega, by omega, by omega, hc1, by omega, by omega, hti, f1, hsl, f3, f4, hla, ?_, ?_⟩
  · have a1 : g_Tale_needed_0 N 288 ms 286 257 = some (nI h) := n1
    have a2 : g_Tale_needed_0 N 288 md 30 1 = some (nI d) := n2
    have cc1 : ¬ ((0 : Int32) < 0 ∨ (0 : Int32) < 0 ∨ nI h < 0 ∨ 288 < (0 : Int32).toNatClampNeg + h ∨ 316 < (0 : Int32).toNatClampNeg + h) := by
      rw [show ((0 : Int32).toNatClampNeg) = 0 from rfl]
      have q1 : ¬ (0 : Int32) < 0 := by decide
      have q2 := nI_pos (n := h) (by omega)
      rintro (a | a | a | a | a)
      · exact q1 a
      · exact q1 a
      · exact q2 a
      · omega
      · omega
    have cc2 : ¬ ((0 : Int32) < 0 ∨ nI h < 0 ∨ nI d < 0 ∨ 288 < (0 : Int32).toNatClampNeg + d ∨ 316 < h + d) := by
      rw [show ((0 : Int32).toNatClampNeg) = 0 from rfl]
      have q1 : ¬ (0 : Int32) < 0 := by decide
      have q2 := nI_pos (n := h) (by omega)
      have q3 := nI_pos (n := d) (by omega)
      rintro (a | a | a | a | a)
      · exact q1 a
      · exact q2 a
      · exact q3 a
      · omega
      · omega
    rw [g_Tale_make_0, a1, Option.bind_some, a2, Option.bind_some, nI_clamp (n := h) (by omega), nI_clamp (n := d) (by omega), if_neg cc1, if_neg cc2, nI_add]
    have z : (0 : Int32).toNatClampNeg = 0 := rfl
    rw [z, er1, Option.bind_some]
    dsimp only
    have e1' : g_LengthMaker_make_0 N 288 19 cc 286 572 572 572 19 7 fcl oc0 pr0 r20 r10 = some (cl, oc, pr, r2, r1) := e1
    rw [e1', Option.bind_some]
    dsimp only
    exact c_cls f1 15 0 N (by omega) (by omega)
  · have b1 : g_Mo_needed_0 N 320 ln 0 286 257 = some (nI h) := n3
    have b2 : g_Mo_needed_0 N 320 ln 288 30 1 = some (nI d) := n4
    have e2' : g_Mo_findLengths_0 N 19 sc 288 19 15 600 600 9000 0 19 7 or_ sl0 ls br li is = some (or', sl', ls', br', li', is') := e2
    have eb' : g_Mo_packPart_L2 N (nI k) 4096 A 4096 V 288 320 15 600 600 9000 320 19 320 320 320 19 9000 8 8192 gi N x1 x2 x3 (nI h) (nI d) 0 cu or_ ln ls br li is la' sp sc0 st0 sm0 sl0 rw_ go os ba td = _ := eb
    have ea' : g_Mo_packPart_L1 N (nI k) 4096 A 4096 V 288 320 15 600 600 9000 320 19 320 320 320 19 9000 8 8192 gi N x1 x2 x3 0 cu or_ ln ls br li is la sp sc0 st0 sm0 sl0 rw_ go os ba td = _ := ea
    rw [ea', g_Mo_packPart_L1, if_pos (show (320 : Int32) ≤ nI 320 by decide), b1, Option.bind_some, b2, Option.bind_some, eb', g_Mo_packPart_L2, nI_add, if_pos (nI_le (by omega) (by omega)), er2, Option.bind_some]
    dsimp only
    rw [e2', Option.bind_some]
    dsimp only
    exact c_ref hsl2 15 N (by omega) (by omega)
