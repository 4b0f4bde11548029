theorem bt_1 (i : Nat) : bt 1 i = decide (i = 0) := by
  rcases Nat.lt_or_ge i 32 with h | h
  · exact (by decide +kernel : ∀ i, i < 32 → bt 1 i = decide (i = 0)) i h
  · rw [b_big h, decide_eq_false (by omega)]
theorem bt_put (x : Int32) {l i : Nat} (hl : l < 32) (hi : i < 32) : bt (x ||| ((1 : Int32) <<< (nI l &&& 31))) i = (bt x i || decide (i = l)) := by
  rw [b_or, b_shl l hl 1 hi, bt_1]
  congr 1
  by_cases c : i = l
  · subst c; simp
  · rw [decide_eq_false c]
    by_cases z : l ≤ i
    · rw [decide_eq_true z, decide_eq_false (show ¬ i - l = 0 by omega)]; rfl
    · rw [decide_eq_false z]; rfl
theorem bt_get (x : Int32) {l : Nat} (hl : l < 32) : ((x >>> (nI l &&& 31)) &&& 1 = 0) ↔ bt x l = false := by
  have e : (x >>> (nI l &&& 31)) &&& 1 = if bt x l = true then 1 else 0 := by
    apply b_ext
    intro i hi
    rw [b_and, b_sshr l hl x hi, bt_1]
    by_cases c : i = 0
    · subst c
      rw [if_pos (by omega), Nat.add_zero]
      cases bt x l <;> simp [bt_1, b_0]
    · rw [decide_eq_false c, Bool.and_false]
      cases bt x l <;> simp [bt_1, b_0, c]
  rw [e]
  cases bt x l <;> decide
/-- the sizes of the lists -/
def sz (m : Nat) : Nat → Nat
  | 0 => m
  | l + 1 => m + sz m l / 2
def psz (m : Nat) : Nat → Nat
  | 0 => 0
  | l + 1 => sz m l
theorem sz_eq (m l : Nat) : sz m l = m + psz m l / 2 := by
  cases l with
  | zero => show m = m + 0 / 2; omega
  | succ l => rfl
theorem sz_le (m : Nat) : ∀ l, sz m l ≤ 2 * m := by
  intro l
  induction l with
  | zero => show m ≤ 2 * m; omega
  | succ l ih => show m + sz m l / 2 ≤ 2 * m; omega
theorem psz_le (m : Nat) (l : Nat) : psz m l ≤ 2 * m := by
  cases l with
  | zero => exact Nat.zero_le _
  | succ l => exact sz_le m l
theorem nb0 : vp_nar .boolean (0 : Int32) = 0 := by decide
theorem nb1 : vp_nar .boolean (1 : Int32) = 1 := by decide
section
variable {fc fr oc or_ bc br : Nat → Int32} {w : Nat → Nat} {m n n1 n1' a l I P N : Nat}
theorem cls_sym {aS b M : Nat} {nc pr : Nat → Int32} (hm : m ≤ 286) (hn1 : n ≤ n1) (hb1 : n1 ≤ 1000) (ho : od oc or_ w m n) (hcf : ∀ t, t < n → fc t = fr (a + t)) (hbb : ∀ j, j < I → bc j = br j) (hI : I ≤ 572) (hP : P = I / 2) (hi : aS + b < m + P) (hb : b ≤ P) (hA : aS < m) (hc : b = P ∨ ¬ br (2 * b) + br (2 * b + 1) < fr (a + w aS)) :
    g_LengthMaker_makeList_L1 572 bc 286 oc n1 fc 572 572 (M + 1) (nI m) (nI l) (nI I) (nI (m + P)) (nI aS) (nI (2 * b + 1)) (nI (aS + b)) nc pr = g_LengthMaker_makeList_L1 572 bc 286 oc n1 fc 572 572 M (nI m) (nI l) (nI I) (nI (m + P)) (nI (aS + 1)) (nI (2 * b + 1)) (nI (aS + 1 + b)) (upd nc (aS + b) (fr (a + w aS))) pr := by
  obtain ⟨o1, o2, o3⟩ := ho.2.1 aS hA
  have hn := ho.1
  have ef := hcf (w aS) o3
  have e4 : ∀ x11 : Int32, g_LengthMaker_makeList_J2 286 oc n1 fc 572 572 (g_LengthMaker_makeList_L1 572 bc 286 oc n1 fc 572 572 M) (nI m) (nI l) (nI I) (nI (m + P)) (nI aS) (nI (2 * b + 1)) (nI (aS + b)) x11 nc pr = g_LengthMaker_makeList_L1 572 bc 286 oc n1 fc 572 572 M (nI m) (nI l) (nI I) (nI (m + P)) (nI (aS + 1)) (nI (2 * b + 1)) (nI (aS + 1 + b)) (upd nc (aS + b) (fr (a + w aS))) pr := by
    intro x11
    rw [g_LengthMaker_makeList_J2, g_LengthMaker_makeList_J4, if_neg (by decide), if_neg (nI_in (by omega) (by omega)), nI_clamp (n := aS) (by omega), o1, if_neg (nI_in (by omega) (by omega)), if_neg (nI_in (by omega) (by omega)), nI_clamp (n := aS + b) (by omega), nI_clamp (n := w aS) (by omega), ef, nI_1, nI_1, show aS + b + 1 = aS + 1 + b by omega]
  rw [g_LengthMaker_makeList_L1, if_neg (nI_ge (by omega) (by omega))]
  by_cases c : b = P
  · rw [if_pos (nI_le (by omega) (by omega)), g_LengthMaker_makeList_J1, if_neg (nI_ge hA (by omega)), if_pos (nI_le (by omega) (by omega))]
    exact e4 0
  · have hc' := hc.resolve_left c
    rw [if_neg (nI_ge (by omega) (by omega)), nI_pred, if_neg (nI_in (by omega) (by omega)), if_neg (nI_in (by omega) (by omega)), nI_clamp (n := 2 * b) (by omega), nI_clamp (n := 2 * b + 1) (by omega), hbb _ (by omega), hbb _ (by omega), g_LengthMaker_makeList_J1, if_neg (nI_ge hA (by omega)), if_neg (nI_ge (by omega) (by omega)), if_neg (nI_in (by omega) (by omega)), nI_clamp (n := aS) (by omega), o1, if_neg (nI_in (by omega) (by omega)), nI_clamp (n := w aS) (by omega), ef, if_neg hc']
    exact e4 _
theorem cls_pair {aS b M : Nat} {nc pr : Nat → Int32} (hm : m ≤ 286) (hn1 : n ≤ n1) (hb1 : n1 ≤ 1000) (ho : od oc or_ w m n) (hcf : ∀ t, t < n → fc t = fr (a + t)) (hbb : ∀ j, j < I → bc j = br j) (hI : I ≤ 572) (hP : P = I / 2) (hi : aS + b < m + P) (hb : b < P) (hA : aS ≤ m) (hc : aS = m ∨ br (2 * b) + br (2 * b + 1) < fr (a + w aS)) :
    g_LengthMaker_makeList_L1 572 bc 286 oc n1 fc 572 572 (M + 1) (nI m) (nI l) (nI I) (nI (m + P)) (nI aS) (nI (2 * b + 1)) (nI (aS + b)) nc pr = g_LengthMaker_makeList_L1 572 bc 286 oc n1 fc 572 572 M (nI m) (nI l) (nI I) (nI (m + P)) (nI aS) (nI (2 * (b + 1) + 1)) (nI (aS + (b + 1))) (upd nc (aS + b) (br (2 * b) + br (2 * b + 1))) (upd pr (aS + b) (pr (aS + b) ||| ((1 : Int32) <<< (nI l &&& 31)))) := by
  have hn := ho.1
  have e4 : g_LengthMaker_makeList_J3 286 oc n1 fc 572 572 (g_LengthMaker_makeList_L1 572 bc 286 oc n1 fc 572 572 M) (nI m) (nI l) (nI I) (nI (m + P)) (nI aS) (nI (2 * b + 1)) (nI (aS + b)) (br (2 * b) + br (2 * b + 1)) nc pr = g_LengthMaker_makeList_L1 572 bc 286 oc n1 fc 572 572 M (nI m) (nI l) (nI I) (nI (m + P)) (nI aS) (nI (2 * (b + 1) + 1)) (nI (aS + (b + 1))) (upd nc (aS + b) (br (2 * b) + br (2 * b + 1))) (upd pr (aS + b) (pr (aS + b) ||| ((1 : Int32) <<< (nI l &&& 31)))) := by
    rw [g_LengthMaker_makeList_J3, g_LengthMaker_makeList_J4, if_pos rfl, if_neg (nI_in (by omega) (by omega)), if_neg (nI_in (by omega) (by omega)), nI_clamp (n := aS + b) (by omega), z_2, nI_add, nI_1, show 2 * b + 1 + 2 = 2 * (b + 1) + 1 by omega, show aS + b + 1 = aS + (b + 1) by omega]
  rw [g_LengthMaker_makeList_L1, if_neg (nI_ge (by omega) (by omega)), if_neg (nI_ge (by omega) (by omega)), nI_pred, if_neg (nI_in (by omega) (by omega)), if_neg (nI_in (by omega) (by omega)), nI_clamp (n := 2 * b) (by omega), nI_clamp (n := 2 * b + 1) (by omega), hbb _ (by omega), hbb _ (by omega), g_LengthMaker_makeList_J1]
  by_cases c : aS = m
  · rw [if_pos (nI_le (by omega) (by omega))]
    exact e4
  · have hc' := hc.resolve_left c
    obtain ⟨o1, o2, o3⟩ := ho.2.1 aS (by omega)
    have ef := hcf (w aS) o3
    rw [if_neg (nI_ge (by omega) (by omega)), if_neg (nI_ge (by omega) (by omega)), if_neg (nI_in (by omega) (by omega)), nI_clamp (n := aS) (by omega), o1, if_neg (nI_in (by omega) (by omega)), nI_clamp (n := w aS) (by omega), ef, if_pos hc']
    exact e4
theorem ref_sym {aS b M : Nat} {ls li is : Nat → Int32} (hm : m ≤ 286) (hl : l < 15) (ha : a + n ≤ n1') (hb1 : n1' ≤ 1000) (ho : od oc or_ w m n) (hP : P ≤ 286) (hb : b ≤ P) (hA : aS < m) (hc : b = P ∨ ¬ br (2 * b) + br (2 * b + 1) < fr (a + w aS)) :
    g_Mo_makeList_L1 N 15 288 or_ n1' fr 600 600 9000 (M + 1) (nI a) (nI m) (nI l) (nI P) (nI aS) (nI b) (nI (aS + b)) ls br li is = g_Mo_makeList_L1 N 15 288 or_ n1' fr 600 600 9000 M (nI a) (nI m) (nI l) (nI P) (nI (aS + 1)) (nI b) (nI (aS + 1 + b)) ls br (upd li (aS + b) (fr (a + w aS))) (upd is (600 * l + (aS + b)) 1) := by
  obtain ⟨o1, o2, o3⟩ := ho.2.1 aS hA
  have hn := ho.1
  have e5 : g_Mo_makeList_J3 288 or_ n1' fr 600 600 9000 (g_Mo_makeList_L1 N 15 288 or_ n1' fr 600 600 9000 M) (nI a) (nI m) (nI l) (nI P) (nI aS) (nI b) (nI (aS + b)) ls br li is = g_Mo_makeList_L1 N 15 288 or_ n1' fr 600 600 9000 M (nI a) (nI m) (nI l) (nI P) (nI (aS + 1)) (nI b) (nI (aS + 1 + b)) ls br (upd li (aS + b) (fr (a + w aS))) (upd is (600 * l + (aS + b)) 1) := by
    rw [g_Mo_makeList_J3, g_Mo_makeList_J5, if_neg (by decide), if_neg (nI_in (by omega) (by omega)), nI_clamp (n := aS) (by omega), o2, nI_add, if_neg (nI_in (by omega) (by omega)), nI_clamp (n := a + w aS) (by omega), g_Mo_makeList_J6, z_600, pk_mul, nI_add, if_neg (nI_in (by omega) (by omega)), if_neg (nI_in (by omega) (by omega)), if_neg (by decide), g_Mo_makeList_J7, if_neg (by decide), nI_clamp (n := aS + b) (by omega), nI_clamp (n := 600 * l + (aS + b)) (by omega), nb1, nI_1, nI_1, show aS + b + 1 = aS + 1 + b by omega]
  rw [g_Mo_makeList_L1, if_pos (nI_lt hA (by omega)), g_Mo_makeList_J2]
  by_cases c : b = P
  · rw [if_pos (by rw [c])]
    exact e5
  · have hc' := hc.resolve_left c
    rw [if_neg (by rw [nI_eq (by omega) (by omega)]; exact c), if_neg (nI_ge hA (by omega)), if_neg (nI_in (by omega) (by omega)), nI_clamp (n := aS) (by omega), o2, nI_add, if_neg (nI_in (by omega) (by omega)), z_2, pk_mul, if_neg (nI_in (by omega) (by omega)), nI_1, if_neg (nI_in (by omega) (by omega)), nI_clamp (n := 2 * b) (by omega), nI_clamp (n := 2 * b + 1) (by omega), nI_clamp (n := a + w aS) (by omega), if_neg hc']
    exact e5
theorem ref_pair {aS b M : Nat} {ls li is : Nat → Int32} (hm : m ≤ 286) (hl : l < 15) (ha : a + n ≤ n1') (hb1 : n1' ≤ 1000) (ho : od oc or_ w m n) (hP : P ≤ 286) (hb : b < P) (hA : aS ≤ m) (hc : aS = m ∨ br (2 * b) + br (2 * b + 1) < fr (a + w aS)) :
    g_Mo_makeList_L1 N 15 288 or_ n1' fr 600 600 9000 (M + 1) (nI a) (nI m) (nI l) (nI P) (nI aS) (nI b) (nI (aS + b)) ls br li is = g_Mo_makeList_L1 N 15 288 or_ n1' fr 600 600 9000 M (nI a) (nI m) (nI l) (nI P) (nI aS) (nI (b + 1)) (nI (aS + (b + 1))) ls br (upd li (aS + b) (br (2 * b) + br (2 * b + 1))) (upd is (600 * l + (aS + b)) 0) := by
  have hn := ho.1
  have e5 : g_Mo_makeList_J4 288 or_ n1' fr 600 600 9000 (g_Mo_makeList_L1 N 15 288 or_ n1' fr 600 600 9000 M) (nI a) (nI m) (nI l) (nI P) (nI aS) (nI b) (nI (aS + b)) ls br li is = g_Mo_makeList_L1 N 15 288 or_ n1' fr 600 600 9000 M (nI a) (nI m) (nI l) (nI P) (nI aS) (nI (b + 1)) (nI (aS + (b + 1))) ls br (upd li (aS + b) (br (2 * b) + br (2 * b + 1))) (upd is (600 * l + (aS + b)) 0) := by
    rw [g_Mo_makeList_J4, g_Mo_makeList_J5, if_pos rfl, z_2, pk_mul, nI_1, if_neg (nI_in (by omega) (by omega)), if_neg (nI_in (by omega) (by omega)), nI_clamp (n := 2 * b) (by omega), nI_clamp (n := 2 * b + 1) (by omega), g_Mo_makeList_J6, z_600, pk_mul, nI_add, if_neg (nI_in (by omega) (by omega)), if_neg (nI_in (by omega) (by omega)), if_pos rfl, g_Mo_makeList_J7, if_pos rfl, nI_clamp (n := aS + b) (by omega), nI_clamp (n := 600 * l + (aS + b)) (by omega), nb0, nI_1, nI_1, show aS + b + 1 = aS + (b + 1) by omega]
  have e2 : g_Mo_makeList_J2 288 or_ n1' fr 600 600 9000 (g_Mo_makeList_L1 N 15 288 or_ n1' fr 600 600 9000 M) (nI a) (nI m) (nI l) (nI P) (nI aS) (nI b) (nI (aS + b)) ls br li is = g_Mo_makeList_J4 288 or_ n1' fr 600 600 9000 (g_Mo_makeList_L1 N 15 288 or_ n1' fr 600 600 9000 M) (nI a) (nI m) (nI l) (nI P) (nI aS) (nI b) (nI (aS + b)) ls br li is := by
    rw [g_Mo_makeList_J2, if_neg (by rw [nI_eq (by omega) (by omega)]; omega)]
    by_cases c : aS = m
    · rw [if_pos (nI_le (by omega) (by omega))]
    · have hc' := hc.resolve_left c
      obtain ⟨o1, o2, o3⟩ := ho.2.1 aS (by omega)
      rw [if_neg (nI_ge (by omega) (by omega)), if_neg (nI_in (by omega) (by omega)), nI_clamp (n := aS) (by omega), o2, nI_add, if_neg (nI_in (by omega) (by omega)), z_2, pk_mul, if_neg (nI_in (by omega) (by omega)), nI_1, if_neg (nI_in (by omega) (by omega)), nI_clamp (n := 2 * b) (by omega), nI_clamp (n := 2 * b + 1) (by omega), nI_clamp (n := a + w aS) (by omega), if_pos hc']
  rw [g_Mo_makeList_L1]
  by_cases c : aS < m
  · rw [if_pos (nI_lt c (by omega)), e2, e5]
  · rw [if_neg (nI_nlt (by omega) (by omega)), if_neg (nI_ge hb (by omega)), e2, e5]
end
