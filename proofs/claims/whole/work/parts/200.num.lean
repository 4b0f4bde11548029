theorem z_0 : (0 : Int32) = nI 0 := rfl
theorem z_1 : (1 : Int32) = nI 1 := rfl
theorem z_2 : (2 : Int32) = nI 2 := rfl
theorem z_3 : (3 : Int32) = nI 3 := rfl
theorem z_4 : (4 : Int32) = nI 4 := rfl
theorem z_5 : (5 : Int32) = nI 5 := rfl
theorem z_6 : (6 : Int32) = nI 6 := rfl
theorem z_7 : (7 : Int32) = nI 7 := rfl
theorem z_8 : (8 : Int32) = nI 8 := rfl
theorem z_9 : (9 : Int32) = nI 9 := rfl
theorem z_10 : (10 : Int32) = nI 10 := rfl
theorem z_11 : (11 : Int32) = nI 11 := rfl
theorem z_12 : (12 : Int32) = nI 12 := rfl
theorem z_13 : (13 : Int32) = nI 13 := rfl
theorem z_14 : (14 : Int32) = nI 14 := rfl
theorem z_15 : (15 : Int32) = nI 15 := rfl
theorem z_16 : (16 : Int32) = nI 16 := rfl
theorem z_17 : (17 : Int32) = nI 17 := rfl
theorem z_18 : (18 : Int32) = nI 18 := rfl
theorem z_19 : (19 : Int32) = nI 19 := rfl
theorem z_24 : (24 : Int32) = nI 24 := rfl
theorem z_29 : (29 : Int32) = nI 29 := rfl
theorem z_30 : (30 : Int32) = nI 30 := rfl
theorem z_31 : (31 : Int32) = nI 31 := rfl
theorem z_32 : (32 : Int32) = nI 32 := rfl
theorem z_97 : (97 : Int32) = nI 97 := rfl
theorem z_120 : (120 : Int32) = nI 120 := rfl
theorem z_128 : (128 : Int32) = nI 128 := rfl
theorem z_138 : (138 : Int32) = nI 138 := rfl
theorem z_144 : (144 : Int32) = nI 144 := rfl
theorem z_156 : (156 : Int32) = nI 156 := rfl
theorem z_254 : (254 : Int32) = nI 254 := rfl
theorem z_255 : (255 : Int32) = nI 255 := rfl
theorem z_256 : (256 : Int32) = nI 256 := rfl
theorem z_257 : (257 : Int32) = nI 257 := rfl
theorem z_258 : (258 : Int32) = nI 258 := rfl
theorem z_261 : (261 : Int32) = nI 261 := rfl
theorem z_265 : (265 : Int32) = nI 265 := rfl
theorem z_280 : (280 : Int32) = nI 280 := rfl
theorem z_284 : (284 : Int32) = nI 284 := rfl
theorem z_285 : (285 : Int32) = nI 285 := rfl
theorem z_286 : (286 : Int32) = nI 286 := rfl
theorem z_288 : (288 : Int32) = nI 288 := rfl
theorem z_316 : (316 : Int32) = nI 316 := rfl
theorem z_320 : (320 : Int32) = nI 320 := rfl
theorem z_572 : (572 : Int32) = nI 572 := rfl
theorem z_600 : (600 : Int32) = nI 600 := rfl
theorem z_4096 : (4096 : Int32) = nI 4096 := rfl
theorem z_8192 : (8192 : Int32) = nI 8192 := rfl
theorem z_9000 : (9000 : Int32) = nI 9000 := rfl
theorem z_16384 : (16384 : Int32) = nI 16384 := rfl
theorem z_32768 : (32768 : Int32) = nI 32768 := rfl
theorem z_65521 : (65521 : Int32) = nI 65521 := rfl
theorem z_65535 : (65535 : Int32) = nI 65535 := rfl
theorem z_65536 : (65536 : Int32) = nI 65536 := rfl
/-- the lowest eight bits of an int, unsigned and as a byte -/
theorem lo8 (x : Int32) : ∃ b : Nat, b < 256 ∧ x &&& 255 = nI b ∧ x.toInt8.toInt32 = sb_b b := by
  refine ⟨x.toBitVec.toNat % 2 ^ 8, Nat.mod_lt _ (by decide), pk_and x 8 (by decide), ?_⟩
  unfold sb_b
  rw [← pk_and x (m := 255) 8 (by decide)]
  congr 1
  apply Int8.toBitVec_inj.mp
  rw [Int32.toBitVec_toInt8, Int32.toBitVec_toInt8, Int32.toBitVec_and]
  apply BitVec.eq_of_getLsbD_eq
  intro i hi
  have hm : ∀ i, i < 8 → (255 : Int32).toBitVec.getLsbD i = true := by decide
  rw [BitVec.getLsbD_signExtend, BitVec.getLsbD_signExtend, if_pos (by omega), if_pos (by omega), BitVec.getLsbD_and, hm i hi, Bool.and_true]
theorem lo8_id {b : Nat} (h : b < 256) : (nI b).toInt8.toInt32 = sb_b b := rfl
theorem lo8_and {b : Nat} (h : b < 256) : sb_b b &&& 255 = nI b := (sb_byte b h).1
theorem nar_sb (b : Nat) : vp_nar .byte (sb_b b) = sb_b b := pk_vb (nI b)
theorem lo8_fit (b : Nat) : fits .byte (.int (sb_b b)) = true := sb_fitB b
/-- two rows of bytes: as the class holds them and as the reference does -/
def rb (f g : Nat → Int32) (n : Nat) : Prop := ∀ i, i < n → ∃ b : Nat, b < 256 ∧ g i = nI b ∧ f i = sb_b b
theorem rb_0 {f g : Nat → Int32} : rb f g 0 := fun i h => absurd h (Nat.not_lt_zero i)
theorem rb_le {f g : Nat → Int32} {n m : Nat} (h : rb f g n) (hm : m ≤ n) : rb f g m := fun i hi => h i (Nat.lt_of_lt_of_le hi hm)
theorem rb_add {f g : Nat → Int32} {n b : Nat} {x y : Int32} (h : rb f g n) (hb : b < 256) (hy : y = nI b) (hx : x = sb_b b) : rb (upd f n x) (upd g n y) (n + 1) := by
  intro i hi
  by_cases e : i = n
  · subst e
    exact ⟨b, hb, by rw [pk_us]; exact hy, by rw [pk_us]; exact hx⟩
  · rw [pk_un e, pk_un e]
    exact h i (by omega)
theorem rb_set {f g : Nat → Int32} {n k b : Nat} {x y : Int32} (h : rb f g n) (hb : b < 256) (hy : y = nI b) (hx : x = sb_b b) : rb (upd f k x) (upd g k y) n := by
  intro i hi
  by_cases e : i = k
  · subst e
    exact ⟨b, hb, by rw [pk_us]; exact hy, by rw [pk_us]; exact hx⟩
  · rw [pk_un e, pk_un e]
    exact h i hi
theorem succ_of {M d : Nat} (h : d < M) : ∃ m, M = m + 1 := ⟨M - 1, by omega⟩
theorem i32_nlt {x y : Int32} (h : x ≤ y) : ¬ y < x := by
  rw [Int32.le_iff_toInt_le] at h
  rw [Int32.lt_iff_toInt_lt]
  omega
theorem i32_lt {x y : Int32} (h : ¬ x ≤ y) : y < x := by
  rw [Int32.le_iff_toInt_le] at h
  rw [Int32.lt_iff_toInt_lt]
  omega
theorem i32_le {x y : Int32} (h : ¬ x < y) : y ≤ x := by
  rw [Int32.lt_iff_toInt_lt] at h
  rw [Int32.le_iff_toInt_le]
  omega
theorem i32_nle {x y : Int32} (h : x < y) : ¬ y ≤ x := by
  rw [Int32.lt_iff_toInt_lt] at h
  rw [Int32.le_iff_toInt_le]
  omega
/-- a number between two literals -/
theorem i32_in {x : Int32} (lo hi : Nat) (hhi : hi < 2147483648) (h1 : ¬ x < nI lo) (h2 : x ≤ nI hi) (hlo : lo < 2147483648 := by decide) : ∃ j : Nat, lo ≤ j ∧ j ≤ hi ∧ x = nI j := by
  have h2' := h2
  rw [Int32.le_iff_toInt_le, nI_toInt hhi] at h2'
  have h1' := h1
  rw [Int32.lt_iff_toInt_lt, nI_toInt hlo] at h1'
  have e0 : (0 : Int32).toInt = 0 := by decide
  obtain ⟨j, hj, rfl⟩ := nI_of (x := x) (by rw [Int32.lt_iff_toInt_lt]; omega)
  rw [nI_toInt hj] at h1' h2'
  exact ⟨j, by omega, by omega, rfl⟩
