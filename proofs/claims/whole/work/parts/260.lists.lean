/-- how many of the first k items of list l are symbols -/
def syC (is : Nat → Int32) (l k : Nat) : Nat := ct (fun j => decide (¬ is (600 * l + j) = 0)) k
theorem syC_ext {is is' : Nat → Int32} {l k : Nat} (h : ∀ j, j < k → is' (600 * l + j) = is (600 * l + j)) : syC is' l k = syC is l k := ct_ext k (fun j hj => by rw [h j hj])
theorem ml_loop {fc fr oc or_ bc br ls : Nat → Int32} {w : Nat → Nat} {m n n1 n1' a l I P N : Nat} (hm : m ≤ 286) (hl : l < 15) (hn1 : n ≤ n1) (hb1 : n1 ≤ 1000) (ha : a + n ≤ n1') (hb2 : n1' ≤ 1000) (ho : od oc or_ w m n) (hcf : ∀ t, t < n → fc t = fr (a + t)) (hbb : ∀ j, j < I → bc j = br j) (hI : I ≤ 572) (hP : P = I / 2) (hN : 100000 ≤ N) (hmp : m + P ≤ 572) :
    ∀ (d aS b : Nat) (nc pr li is : Nat → Int32) (M M' : Nat), aS + b + d = m + P → d < M → d < M' → aS ≤ m → b ≤ P → (∀ j, j < aS + b → nc j = li j) → (∀ j, j < aS + b → (bt (pr j) l = true ↔ is (600 * l + j) = 0)) → (∀ j, aS + b ≤ j → j < 572 → bt (pr j) l = false) → syC is l (aS + b) = aS →
    ∃ nc' pr' li' is', (∀ j, j < m + P → nc' j = li' j) ∧ (∀ j, j < m + P → (bt (pr' j) l = true ↔ is' (600 * l + j) = 0)) ∧ syC is' l (m + P) = m ∧ (∀ j l', l' ≠ l → l' < 32 → bt (pr' j) l' = bt (pr j) l') ∧ (∀ x, x < 600 * l → is' x = is x) ∧
      g_LengthMaker_makeList_L1 572 bc 286 oc n1 fc 572 572 M (nI m) (nI l) (nI I) (nI (m + P)) (nI aS) (nI (2 * b + 1)) (nI (aS + b)) nc pr = some (nI (m + P), nc', pr') ∧
      g_Mo_makeList_L1 N 15 288 or_ n1' fr 600 600 9000 M' (nI a) (nI m) (nI l) (nI P) (nI aS) (nI b) (nI (aS + b)) ls br li is = g_Mo_makeList_L2 600 600 N (nI (m + P)) 0 (upd ls l (nI (m + P))) br li' is' := by
  intro d
  induction d with
  | zero =>
    intro aS b nc pr li is M M' hd hM hM' hA hB h1 h2 h3 h4
    obtain ⟨k, rfl⟩ := succ_of hM
    obtain ⟨k', rfl⟩ := succ_of hM'
    have e1 : aS = m := by omega
    have e2 : b = P := by omega
    subst e1
    subst e2
    refine ⟨nc, pr, li, is, h1, h2, h4, fun _ _ _ _ => rfl, fun _ _ => rfl, ?_, ?_⟩
    · rw [g_LengthMaker_makeList_L1, if_pos (nI_le (Nat.le_refl _) (by omega))]
    · rw [g_Mo_makeList_L1, if_neg (nI_nlt (Nat.le_refl _) (by omega)), if_pos (nI_le (Nat.le_refl _) (by omega)), if_neg (nI_in (by omega) (by omega)), nI_clamp (n := l) (by omega)]
  | succ d ih =>
    intro aS b nc pr li is M M' hd hM hM' hA hB h1 h2 h3 h4
    obtain ⟨k, rfl⟩ := succ_of hM
    obtain ⟨k', rfl⟩ := succ_of hM'
    by_cases c : aS < m ∧ (b = P ∨ ¬ br (2 * b) + br (2 * b + 1) < fr (a + w aS))
    · rw [cls_sym hm hn1 hb1 ho hcf hbb hI hP (by omega) hB c.1 c.2, ref_sym hm hl ha hb2 ho (by omega) hB c.1 c.2]
      obtain ⟨nc', pr', li', is', q1, q2, q3, q4, q5, q6, q7⟩ := ih (aS + 1) b (upd nc (aS + b) (fr (a + w aS))) pr (upd li (aS + b) (fr (a + w aS))) (upd is (600 * l + (aS + b)) 1) k k' (by omega) (by omega) (by omega) (by omega) hB (fun j hj => by
        by_cases z : j = aS + b
        · subst z; rw [pk_us, pk_us]
        · rw [pk_un z, pk_un z]; exact h1 j (by omega)) (fun j hj => by
        by_cases z : j = aS + b
        · subst z
          rw [pk_us, h3 _ (Nat.le_refl _) (by omega)]
          constructor
          · intro y; exact absurd y (by decide)
          · intro y; exact absurd y (by decide)
        · rw [pk_un (by omega)]; exact h2 j (by omega)) (fun j hj1 hj2 => h3 j (by omega) hj2) (by
        unfold syC
        rw [show aS + 1 + b = aS + b + 1 by omega, ct_s, pk_us, if_pos (by decide), ct_ext (aS + b) (fun j hj => by rw [pk_un (by omega)])]
        unfold syC at h4
        rw [h4])
      exact ⟨nc', pr', li', is', q1, q2, q3, q4, fun x hx => by rw [q5 x hx, pk_un (by omega)], q6, q7⟩
    · have hb : b < P := by
        by_cases z : aS < m
        · by_cases y : b = P
          · exact absurd ⟨z, Or.inl y⟩ c
          · omega
        · omega
      have hc : aS = m ∨ br (2 * b) + br (2 * b + 1) < fr (a + w aS) := by
        by_cases z : aS = m
        · exact Or.inl z
        · refine Or.inr (Classical.byContradiction (fun y => c ⟨by omega, Or.inr y⟩))
      rw [cls_pair hm hn1 hb1 ho hcf hbb hI hP (by omega) hb hA hc, ref_pair hm hl ha hb2 ho (by omega) hb hA hc]
      obtain ⟨nc', pr', li', is', q1, q2, q3, q4, q5, q6, q7⟩ := ih aS (b + 1) (upd nc (aS + b) (br (2 * b) + br (2 * b + 1))) (upd pr (aS + b) (pr (aS + b) ||| ((1 : Int32) <<< (nI l &&& 31)))) (upd li (aS + b) (br (2 * b) + br (2 * b + 1))) (upd is (600 * l + (aS + b)) 0) k k' (by omega) (by omega) (by omega) hA (by omega) (fun j hj => by
        by_cases z : j = aS + b
        · subst z; rw [pk_us, pk_us]
        · rw [pk_un z, pk_un z]; exact h1 j (by omega)) (fun j hj => by
        by_cases z : j = aS + b
        · subst z
          rw [pk_us, pk_us, bt_put _ (by omega) (by omega), decide_eq_true rfl, Bool.or_true]
          exact ⟨fun _ => rfl, fun _ => rfl⟩
        · rw [pk_un z, pk_un (by omega)]; exact h2 j (by omega)) (fun j hj1 hj2 => by
        rw [pk_un (by omega)]; exact h3 j (by omega) hj2) (by
        unfold syC
        rw [show aS + (b + 1) = aS + b + 1 by omega, ct_s, pk_us, if_neg (by decide), ct_ext (aS + b) (fun j hj => by rw [pk_un (by omega)])]
        unfold syC at h4
        rw [h4]
        rfl)
      refine ⟨nc', pr', li', is', q1, q2, q3, fun j l' z1 z2 => ?_, fun x hx => by rw [q5 x hx, pk_un (by omega)], q6, q7⟩
      rw [q4 j l' z1 z2]
      by_cases z : j = aS + b
      · subst z
        rw [pk_us, bt_put _ (by omega) z2, decide_eq_false z1, Bool.or_false]
      · rw [pk_un z]
theorem mcp_loop {ls li is : Nat → Int32} {k : Nat} (hk : k ≤ 600) : ∀ (d i : Nat) (br : Nat → Int32) (M : Nat), i + d = k → d < M → (∀ j, j < i → br j = li j) → ∃ br', g_Mo_makeList_L2 600 600 M (nI k) (nI i) ls br li is = some (ls, br', li, is) ∧ ∀ j, j < k → br' j = li j := by
  intro d
  induction d with
  | zero =>
    intro i br M hi hM h
    obtain ⟨q, rfl⟩ := succ_of hM
    exact ⟨br, by rw [g_Mo_makeList_L2, if_pos (nI_le (by omega) (by omega))], fun j hj => h j (by omega)⟩
  | succ d ih =>
    intro i br M hi hM h
    obtain ⟨q, rfl⟩ := succ_of hM
    rw [g_Mo_makeList_L2, if_neg (nI_ge (by omega) (by omega)), if_neg (nI_in (by omega) (by omega)), if_neg (nI_in (by omega) (by omega)), nI_clamp (n := i) (by omega), nI_1]
    refine ih (i + 1) _ q (by omega) (by omega) (fun j hj => ?_)
    by_cases c : j = i
    · subst c; rw [pk_us]
    · rw [pk_un c]; exact h j (by omega)
/-- the lists below l are made, in both -/
def lm (m l : Nat) (pr is : Nat → Int32) : Prop := (∀ k, k < l → (∀ j, j < sz m k → (bt (pr j) k = true ↔ is (600 * k + j) = 0)) ∧ syC is k (sz m k) = m) ∧ (∀ k, l ≤ k → k < 32 → ∀ j, j < 572 → bt (pr j) k = false)
theorem sim_list {fc fr oc or_ bc br ls nc pr li is : Nat → Int32} {w : Nat → Nat} {m n n1 n1' a l N : Nat} (hm : m ≤ 286) (hl : l < 15) (hn1 : n ≤ n1) (hb1 : n1 ≤ 1000) (ha : a + n ≤ n1') (hb2 : n1' ≤ 1000) (ho : od oc or_ w m n) (hcf : ∀ t, t < n → fc t = fr (a + t)) (hN : 100000 ≤ N) (hbb : ∀ j, j < psz m l → bc j = br j) (hls : l = 0 ∨ ls (l - 1) = nI (psz m l)) (hlm : lm m l pr is) :
    ∃ nc' pr' li' is' br' ls', (∀ j, j < psz m (l + 1) → nc' j = br' j) ∧ ls' l = nI (psz m (l + 1)) ∧ lm m (l + 1) pr' is' ∧
      g_LengthMaker_makeList_0 N 572 bc 286 oc n1 fc 572 572 (nI m) (nI l) (nI (psz m l)) nc pr = some (nI (psz m (l + 1)), nc', pr') ∧
      g_Mo_makeList_0 N 15 288 or_ n1' fr 600 600 9000 (nI a) (nI m) (nI l) ls br li is = some (ls', br', li', is') := by
  have hpl := psz_le m l
  have hsl := sz_le m l
  have hse := sz_eq m l
  have ho1 := ho.1
  obtain ⟨nc', pr', li', is', q1, q2, q3, q4, q5, q6, q7⟩ := ml_loop (fc := fc) (ls := ls) (N := N) (P := psz m l / 2) hm hl hn1 hb1 ha hb2 ho hcf hbb (by omega) rfl hN (by omega) (m + psz m l / 2) 0 0 nc pr li is N N (by omega) (by omega) (by omega) (by omega) (by omega) (fun j hj => by omega) (fun j hj => by omega) (fun j _ hj => hlm.2 l (Nat.le_refl _) (by omega) j hj) rfl
  obtain ⟨br', c1, c2⟩ := mcp_loop (ls := upd ls l (nI (m + psz m l / 2))) (li := li') (is := is') (k := m + psz m l / 2) (by omega) (m + psz m l / 2) 0 br N (by omega) (by omega) (fun j hj => by omega)
  have es : psz m (l + 1) = m + psz m l / 2 := hse
  refine ⟨nc', pr', li', is', br', upd ls l (nI (m + psz m l / 2)), fun j hj => ?_, ?_, ⟨fun k hk => ?_, fun k hk1 hk2 j hj => ?_⟩, ?_, ?_⟩
  · rw [es] at hj; rw [q1 j hj, c2 j hj]
  · rw [pk_us, es]
  · by_cases z : k = l
    · subst z; rw [hse]; exact ⟨q2, q3⟩
    · obtain ⟨a1, a2⟩ := hlm.1 k (by omega)
      have hsk := sz_le m k
      refine ⟨fun j hj => ?_, ?_⟩
      · rw [q4 j k z (by omega), q5 _ (by omega)]; exact a1 j hj
      · rw [syC_ext (fun j hj => q5 _ (by omega))]; exact a2
  · rw [q4 j k (by omega) hk2]; exact hlm.2 k (by omega) hk2 j hj
  · rw [g_LengthMaker_makeList_0, z_2, pk_div (by omega) (by decide) (by decide), nI_add, es]
    exact q6
  · have e1 : g_Mo_makeList_J1 N 15 288 or_ n1' fr 600 600 9000 (nI a) (nI m) (nI l) (nI (psz m l / 2)) ls br li is = some (upd ls l (nI (m + psz m l / 2)), br', li', is') := by
      rw [g_Mo_makeList_J1, ← c1]
      exact q7
    rw [g_Mo_makeList_0]
    by_cases z : l = 0
    · subst z
      rw [if_pos (show nI 0 = 0 from rfl)]
      have e0 : nI (psz m 0 / 2) = 0 := by rw [show psz m 0 = 0 from rfl]; rfl
      rw [e0] at e1
      exact e1
    · obtain ⟨l', rfl⟩ : ∃ l', l = l' + 1 := ⟨l - 1, by omega⟩
      have hls' := hls.resolve_left z
      rw [show l' + 1 - 1 = l' by omega] at hls'
      rw [if_neg (nI_ne0 (by omega) (by omega)), nI_pred, if_neg (nI_in (by omega) (by omega)), nI_clamp (n := l') (by omega), hls', z_2, pk_div (by omega) (by decide) (by decide)]
      exact e1
/-- all lists -/
theorem sim_lists {fc fr oc or_ to : Nat → Int32} {w : Nat → Nat} {m n n1 n1' n5 a N L : Nat} (hm : m ≤ 286) (hL : L ≤ 15) (hn1 : n ≤ n1) (hb1 : n1 ≤ 1000) (ha : a + n ≤ n1') (hb2 : n1' ≤ 1000) (ho : od oc or_ w m n) (hcf : ∀ t, t < n → fc t = fr (a + t)) (hN : 100000 ≤ N) :
    ∀ (d l : Nat) (pr r2 r1 ls br li is : Nat → Int32) (M M' : Nat), l + d = L → d < M → d < M' → (∀ j, j < psz m l → (if l % 2 = 0 then r1 else r2) j = br j) → (l = 0 ∨ ls (l - 1) = nI (psz m l)) → lm m l pr is →
    ∃ pr' r2' r1' ls' br' li' is', lm m L pr' is' ∧
      (if l % 2 = 0 then g_LengthMaker_makeLists_L1 N 572 572 286 oc n1 fc 572 M (nI m) (nI L) (nI (psz m l)) (nI l) pr r2 r1 = some (pr', r2', r1') else g_LengthMaker_makeLists_L1b N 572 572 286 oc n1 fc 572 (g_LengthMaker_makeLists_L1 N 572 572 286 oc n1 fc 572 M) (nI m) (nI L) (nI (psz m l)) (nI l) pr r2 r1 = some (pr', r2', r1')) ∧
      g_Mo_findLengths_L2 N n1' fr 288 n5 15 600 600 9000 M' (nI a) (nI L) (nI m) (nI l) or_ to ls br li is = g_Mo_findLengths_L3 N 288 n5 9000 N (nI a) ((2 * nI m) - 2) (nI L - 1) or_ to ls' br' li' is' := by
  intro d
  induction d with
  | zero =>
    intro l pr r2 r1 ls br li is M M' hd hM hM' h1 h2 h3
    obtain ⟨k, rfl⟩ := succ_of hM
    obtain ⟨k', rfl⟩ := succ_of hM'
    have e : l = L := by omega
    subst e
    refine ⟨pr, r2, r1, ls, br, li, is, h3, ?_, ?_⟩
    · split
      · rw [g_LengthMaker_makeLists_L1, if_pos (nI_le (Nat.le_refl _) (by omega))]
      · rw [g_LengthMaker_makeLists_L1b, if_pos (nI_le (Nat.le_refl _) (by omega))]
    · rw [g_Mo_findLengths_L2, if_pos (nI_le (Nat.le_refl _) (by omega))]
  | succ d ih =>
    intro l pr r2 r1 ls br li is M M' hd hM hM' h1 h2 h3
    obtain ⟨k', rfl⟩ := succ_of hM'
    by_cases c : l % 2 = 0
    · obtain ⟨k, rfl⟩ := succ_of hM
      rw [if_pos c] at h1
      have c' : ¬ (l + 1) % 2 = 0 := by omega
      obtain ⟨nc', pr', li', is', br', ls', q1, q2, q3, q4, q5⟩ := sim_list (nc := r2) (li := li) hm (show l < 15 by omega) hn1 hb1 ha hb2 ho hcf hN h1 h2 h3
      obtain ⟨p1, p2, p3, p4, p5, p6, p7, u1, u2, u3⟩ := ih (l + 1) pr' nc' r1 ls' br' li' is' k k' (by omega) (by omega) (by omega) (by rw [if_neg c']; exact q1) (Or.inr q2) q3
      rw [if_neg c'] at u2
      refine ⟨p1, p2, p3, p4, p5, p6, p7, u1, ?_, ?_⟩
      · rw [if_pos c, g_LengthMaker_makeLists_L1, if_neg (nI_ge (by omega) (by omega)), q4, Option.bind_some, nI_1]
        exact u2
      · rw [g_Mo_findLengths_L2, if_neg (nI_ge (by omega) (by omega)), q5, Option.bind_some, nI_1]
        exact u3
    · rw [if_neg c] at h1
      have c' : (l + 1) % 2 = 0 := by omega
      obtain ⟨nc', pr', li', is', br', ls', q1, q2, q3, q4, q5⟩ := sim_list (nc := r1) (li := li) hm (show l < 15 by omega) hn1 hb1 ha hb2 ho hcf hN h1 h2 h3
      obtain ⟨p1, p2, p3, p4, p5, p6, p7, u1, u2, u3⟩ := ih (l + 1) pr' r2 nc' ls' br' li' is' M k' (by omega) (by omega) (by omega) (by rw [if_pos c']; exact q1) (Or.inr q2) q3
      rw [if_pos c'] at u2
      refine ⟨p1, p2, p3, p4, p5, p6, p7, u1, ?_, ?_⟩
      · rw [if_neg c, g_LengthMaker_makeLists_L1b, if_neg (nI_ge (by omega) (by omega)), q4, Option.bind_some, nI_1]
        exact u2
      · rw [g_Mo_findLengths_L2, if_neg (nI_ge (by omega) (by omega)), q5, Option.bind_some, nI_1]
        exact u3
