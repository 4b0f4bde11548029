abbrev rm_Bp_take : Room := { frames := 1, cells := 0, slots := 0, locals := 40 }
abbrev e_Bp_take (dC : Nat → ClassId) (dI : Nat → Nat → Nat) (cI cB cZ : ClassId) (a0 : Nat) (a0_input : Nat) (a0_output : Nat) (a0_packer : Nat) (a0_unpacker : Nat) (a0_output_bytes : Nat) (a0_input_bytes : Nat) (N : Nat) (v0_output_count : Int32) (v0_output_place : Int32) (v0_input_place : Int32) (n0_output_bytes : Nat) (f0_output_bytes : Nat → Int32) (n0_input_bytes : Nat) (x : Int32 × Int32 × (Nat → Int32)) (u : Unit) : va_W := [(a0, .inr (0, [.ref a0_input, .ref a0_output, .ref a0_packer, .ref a0_unpacker])), (a0_output, .inr (1, [.ref a0_output_bytes, .int v0_output_count, .int v0_output_place])), (a0_input, .inr (1, [.ref a0_input_bytes, .int x.2.1, .int v0_input_place])), (a0_output_bytes, .inl (cB, n0_output_bytes, .inl f0_output_bytes)), (a0_input_bytes, .inl (cB, n0_input_bytes, .inl x.2.2))]
abbrev q_Bp_take (below : List Frame) (args : Array Value) (s : State) (dC : Nat → ClassId) (dI : Nat → Nat → Nat) (cI cB cZ : ClassId) (A : Nat → Prop) (a0 : Nat) (a0_input : Nat) (a0_output : Nat) (a0_packer : Nat) (a0_unpacker : Nat) (a0_output_bytes : Nat) (a0_input_bytes : Nat) (N : Nat) (v0_output_count : Int32) (v0_output_place : Int32) (v0_input_place : Int32) (n0_output_bytes : Nat) (f0_output_bytes : Nat → Int32) (n0_input_bytes : Nat) (x : Int32 × Int32 × (Nat → Int32)) : State → Prop := MQ below (va_Qi (fun r (_ : Unit) => r = x.1) (gz_B (dC, dI) vwCl A (e_Bp_take dC dI cI cB cZ a0 a0_input a0_output a0_packer a0_unpacker a0_output_bytes a0_input_bytes N v0_output_count v0_output_place v0_input_place n0_output_bytes f0_output_bytes n0_input_bytes x)) A) args s 0 0 A
def t_Bp_take_0 (p : Program) (l : Launch) (e : Env) (s : State) (m : MethodId) (args : Array Value) (below : List Frame) (meth : Method) (c : Code) (dC : Nat → ClassId) (dI : Nat → Nat → Nat) (cI cB cZ : ClassId) (tS : Nat) (A : Nat → Prop) (a0 : Nat) (a0_input : Nat) (a0_output : Nat) (a0_packer : Nat) (a0_unpacker : Nat) (a0_output_bytes : Nat) (a0_input_bytes : Nat) (N : Nat) (v0_output_count : Int32) (v0_output_place : Int32) (v0_input_place : Int32) (n0_output_bytes : Nat) (f0_output_bytes : Nat → Int32) (n0_input_bytes : Nat) (x : Int32 × Int32 × (Nat → Int32)) (F : Int32 → (Nat → Int32) → Option (Int32 × Int32 × (Nat → Int32))) : Prop :=
  ∀ (v0_input_count : Int32) (f0_input_bytes : Nat → Int32), F v0_input_count f0_input_bytes = some x → ∀ (H : Heap) (locs : List Loc) (ls : Array Slot), va_P (dC, dI) vwCl [(a0, .inr (0, [.ref a0_input, .ref a0_output, .ref a0_packer, .ref a0_unpacker])), (a0_output, .inr (1, [.ref a0_output_bytes, .int v0_output_count, .int v0_output_place])), (a0_input, .inr (1, [.ref a0_input_bytes, .int v0_input_count, .int v0_input_place])), (a0_output_bytes, .inl (cB, n0_output_bytes, .inl f0_output_bytes)), (a0_input_bytes, .inl (cB, n0_input_bytes, .inl f0_input_bytes))] H → va_D A [(a0, .inr (0, [.ref a0_input, .ref a0_output, .ref a0_packer, .ref a0_unpacker])), (a0_output, .inr (1, [.ref a0_output_bytes, .int v0_output_count, .int v0_output_place])), (a0_input, .inr (1, [.ref a0_input_bytes, .int v0_input_count, .int v0_input_place])), (a0_output_bytes, .inl (cB, n0_output_bytes, .inl f0_output_bytes)), (a0_input_bytes, .inl (cB, n0_input_bytes, .inl f0_input_bytes))] → va_S A s.heap H locs → lv_has ls 1 [(0, .ref a0)] → W p l e rm_Bp_take s m args below meth c H locs 0 0 (q_Bp_take below args s dC dI cI cB cZ A a0 a0_input a0_output a0_packer a0_unpacker a0_output_bytes a0_input_bytes N v0_output_count v0_output_place v0_input_place n0_output_bytes f0_output_bytes n0_input_bytes x) (F0 m 0 ls [])
def g_Bp_take_0 (v0_output_count : Int32) (n0_output_bytes : Nat) (f0_output_bytes : Nat → Int32) (n0_input_bytes : Nat) (v0_input_count : Int32) (f0_input_bytes : Nat → Int32) : Option (Int32 × Int32 × (Nat → Int32)) := (if (0 : Int32) < 0 ∨ (0 : Int32) < 0 ∨ (if (8192 : Int32) < v0_output_count then (8192 : Int32) else v0_output_count) < 0 ∨ n0_output_bytes < (0 : Int32).toNatClampNeg + (if (8192 : Int32) < v0_output_count then (8192 : Int32) else v0_output_count).toNatClampNeg ∨ n0_input_bytes < (0 : Int32).toNatClampNeg + (if (8192 : Int32) < v0_output_count then (8192 : Int32) else v0_output_count).toNatClampNeg then none else (if ∀ i, i < (if (8192 : Int32) < v0_output_count then (8192 : Int32) else v0_output_count).toNatClampNeg → fits .byte (.int (f0_output_bytes ((0 : Int32).toNatClampNeg + i))) = true then some ((if (8192 : Int32) < v0_output_count then (8192 : Int32) else v0_output_count), (if (8192 : Int32) < v0_output_count then (8192 : Int32) else v0_output_count), va_cpy f0_output_bytes f0_input_bytes (0 : Int32).toNatClampNeg (0 : Int32).toNatClampNeg (if (8192 : Int32) < v0_output_count then (8192 : Int32) else v0_output_count).toNatClampNeg) else none))
set_option maxHeartbeats 4000000 in
set_option maxRecDepth 100000 in
theorem w_Bp_take_0 {p : Program} {l : Launch} {e : Env} {s : State} {m : MethodId} {args : Array Value} {below : List Frame} {meth : Method} {c : Code} {dC : Nat → ClassId} {dI : Nat → Nat → Nat} {cI cB cZ : ClassId} {tS : Nat} {A : Nat → Prop} (C0 : gz_C p s m args meth c b_Bp_take 1 (some .int) R_Bp "take" gz_W A (dC, dI) vwCl [(cI, .int), (cB, .byte), (cZ, .boolean)] tS) (a0 : Nat) (a0_input : Nat) (a0_output : Nat) (a0_packer : Nat) (a0_unpacker : Nat) (a0_output_bytes : Nat) (a0_input_bytes : Nat) (N : Nat) (v0_output_count : Int32) (v0_output_place : Int32) (v0_input_place : Int32) (n0_output_bytes : Nat) (f0_output_bytes : Nat → Int32) (n0_input_bytes : Nat) (x : Int32 × Int32 × (Nat → Int32)) : t_Bp_take_0 p l e s m args below meth c dC dI cI cB cZ tS A a0 a0_input a0_output a0_packer a0_unpacker a0_output_bytes a0_input_bytes N v0_output_count v0_output_place v0_input_place n0_output_bytes f0_output_bytes n0_input_bytes x (g_Bp_take_0 v0_output_count n0_output_bytes f0_output_bytes n0_input_bytes) := by
  obtain ⟨hx, hb, hr, hml, hown, hin0, hts, hlocks, hA, hK, hE⟩ := id C0
  intro v0_input_count f0_input_bytes h H locs ls hP hD hS hl
  rw [g_Bp_take_0] at h
  refine lv_aload_n hx hb d_Bp_take_0 rfl (lv_at hl 0 rfl) ?_
  refine va_get (D := (dC, dI)) (ci := 0) (v := .ref a0_input) (C := R_Bp) (T := F_Bp) (N := 4) hx hb hts in_Bp hown hK hP 0 rfl rfl 0 (by decide) (hts _ kw_13) (fun _ h9 => h9) rfl d_Bp_take_1 ?_
  refine lv_aload_n hx hb d_Bp_take_4 rfl (lv_at hl 0 rfl) ?_
  refine va_get (D := (dC, dI)) (ci := 0) (v := .ref a0_output) (C := R_Bp) (T := F_Bp) (N := 4) hx hb hts in_Bp hown hK hP 0 rfl rfl 1 (by decide) (hts _ kw_14) (fun _ h9 => h9) rfl d_Bp_take_5 ?_
  refine va_get (D := (dC, dI)) (ci := 1) (v := .int v0_output_count) (C := R_Row) (T := F_Row) (N := 3) hx hb hts in_Row hown hK hP 1 rfl rfl 1 (by decide) (hts _ kw_146) (fun _ h9 => h9) rfl d_Bp_take_8 ?_
  refine lv_sipush (v := (8192 : Int32)) hx hb d_Bp_take_11 (by decide) ?_
  refine va_mmin hx hb (hml.trans hl.1.symm) hown (hts _ kw_165) (hts _ kw_166) (hts _ kw_167) (hts _ kw_168) (Nat.le_of_ble_eq_true rfl) (Nat.le_of_ble_eq_true rfl) (Nat.le_of_ble_eq_true rfl) (Nat.le_of_ble_eq_true rfl) d_Bp_take_14 ?_
  refine va_put (D := (dC, dI)) (ci := 1) (v := .int (if (8192 : Int32) < v0_output_count then (8192 : Int32) else v0_output_count)) (ty := .int) (C := R_Row) (T := F_Row) (N := 3) hx hb hts in_Row t_Row t_Row_ok n_Row hown hK hP hD hS 2 rfl rfl 1 (by decide) (hts _ kw_146) (fun _ h9 => h9) rfl (by decide +kernel) rfl rfl (Nat.le_of_ble_eq_true rfl) d_Bp_take_17 (fun H locs hP hD hS => ?_)
  have hP : va_P (dC, dI) vwCl [(a0, .inr (0, [.ref a0_input, .ref a0_output, .ref a0_packer, .ref a0_unpacker])), (a0_output, .inr (1, [.ref a0_output_bytes, .int v0_output_count, .int v0_output_place])), (a0_input, .inr (1, [.ref a0_input_bytes, .int (if (8192 : Int32) < v0_output_count then (8192 : Int32) else v0_output_count), .int v0_input_place])), (a0_output_bytes, .inl (cB, n0_output_bytes, .inl f0_output_bytes)), (a0_input_bytes, .inl (cB, n0_input_bytes, .inl f0_input_bytes))] H := hP
  have hD : va_D A [(a0, .inr (0, [.ref a0_input, .ref a0_output, .ref a0_packer, .ref a0_unpacker])), (a0_output, .inr (1, [.ref a0_output_bytes, .int v0_output_count, .int v0_output_place])), (a0_input, .inr (1, [.ref a0_input_bytes, .int (if (8192 : Int32) < v0_output_count then (8192 : Int32) else v0_output_count), .int v0_input_place])), (a0_output_bytes, .inl (cB, n0_output_bytes, .inl f0_output_bytes)), (a0_input_bytes, .inl (cB, n0_input_bytes, .inl f0_input_bytes))] := hD
  refine lv_aload_n hx hb d_Bp_take_20 rfl (lv_at hl 0 rfl) ?_
  refine va_get (D := (dC, dI)) (ci := 0) (v := .ref a0_output) (C := R_Bp) (T := F_Bp) (N := 4) hx hb hts in_Bp hown hK hP 0 rfl rfl 1 (by decide) (hts _ kw_14) (fun _ h9 => h9) rfl d_Bp_take_21 ?_
  refine va_get (D := (dC, dI)) (ci := 1) (v := .ref a0_output_bytes) (C := R_Row) (T := F_Row) (N := 3) hx hb hts in_Row hown hK hP 1 rfl rfl 0 (by decide) (hts _ kw_164) (fun _ h9 => h9) rfl d_Bp_take_24 ?_
  refine lv_iconst (v := (0 : Int32)) hx hb d_Bp_take_27 (by decide) ?_
  refine lv_aload_n hx hb d_Bp_take_28 rfl (lv_at hl 0 rfl) ?_
  refine va_get (D := (dC, dI)) (ci := 0) (v := .ref a0_input) (C := R_Bp) (T := F_Bp) (N := 4) hx hb hts in_Bp hown hK hP 0 rfl rfl 0 (by decide) (hts _ kw_13) (fun _ h9 => h9) rfl d_Bp_take_29 ?_
  refine va_get (D := (dC, dI)) (ci := 1) (v := .ref a0_input_bytes) (C := R_Row) (T := F_Row) (N := 3) hx hb hts in_Row hown hK hP 2 rfl rfl 0 (by decide) (hts _ kw_164) (fun _ h9 => h9) rfl d_Bp_take_32 ?_
  refine lv_iconst (v := (0 : Int32)) hx hb d_Bp_take_35 (by decide) ?_
  refine lv_aload_n hx hb d_Bp_take_36 rfl (lv_at hl 0 rfl) ?_
  refine va_get (D := (dC, dI)) (ci := 0) (v := .ref a0_input) (C := R_Bp) (T := F_Bp) (N := 4) hx hb hts in_Bp hown hK hP 0 rfl rfl 0 (by decide) (hts _ kw_13) (fun _ h9 => h9) rfl d_Bp_take_37 ?_
  refine va_get (D := (dC, dI)) (ci := 1) (v := .int (if (8192 : Int32) < v0_output_count then (8192 : Int32) else v0_output_count)) (C := R_Row) (T := F_Row) (N := 3) hx hb hts in_Row hown hK hP 2 rfl rfl 1 (by decide) (hts _ kw_146) (fun _ h9 => h9) rfl d_Bp_take_40 ?_
  obtain ⟨hk1, h⟩ := gz_n h
  obtain ⟨hka, hkb, hkc, hkd, hke⟩ := gz_cp hk1
  obtain ⟨hkf, h⟩ := gz_p h
  refine va_copyi hx hb (hml.trans hl.1.symm) hown (hts _ kw_169) (hts _ kw_170) (hts _ kw_171) (hts _ kw_172) hK hP hD hS 3 4 1 1 rfl rfl rfl rfl rfl hka hkb hkc hkd hke hkf (Nat.le_of_ble_eq_true rfl) (Nat.le_of_ble_eq_true rfl) d_Bp_take_43 (fun H locs hP hD hS => ?_)
  have hP : va_P (dC, dI) vwCl [(a0, .inr (0, [.ref a0_input, .ref a0_output, .ref a0_packer, .ref a0_unpacker])), (a0_output, .inr (1, [.ref a0_output_bytes, .int v0_output_count, .int v0_output_place])), (a0_input, .inr (1, [.ref a0_input_bytes, .int (if (8192 : Int32) < v0_output_count then (8192 : Int32) else v0_output_count), .int v0_input_place])), (a0_output_bytes, .inl (cB, n0_output_bytes, .inl f0_output_bytes)), (a0_input_bytes, .inl (cB, n0_input_bytes, .inl (va_cpy f0_output_bytes f0_input_bytes (0 : Int32).toNatClampNeg (0 : Int32).toNatClampNeg (if (8192 : Int32) < v0_output_count then (8192 : Int32) else v0_output_count).toNatClampNeg)))] H := hP
  have hD : va_D A [(a0, .inr (0, [.ref a0_input, .ref a0_output, .ref a0_packer, .ref a0_unpacker])), (a0_output, .inr (1, [.ref a0_output_bytes, .int v0_output_count, .int v0_output_place])), (a0_input, .inr (1, [.ref a0_input_bytes, .int (if (8192 : Int32) < v0_output_count then (8192 : Int32) else v0_output_count), .int v0_input_place])), (a0_output_bytes, .inl (cB, n0_output_bytes, .inl f0_output_bytes)), (a0_input_bytes, .inl (cB, n0_input_bytes, .inl (va_cpy f0_output_bytes f0_input_bytes (0 : Int32).toNatClampNeg (0 : Int32).toNatClampNeg (if (8192 : Int32) < v0_output_count then (8192 : Int32) else v0_output_count).toNatClampNeg)))] := hD
  refine lv_aload_n hx hb d_Bp_take_46 rfl (lv_at hl 0 rfl) ?_
  refine va_get (D := (dC, dI)) (ci := 0) (v := .ref a0_input) (C := R_Bp) (T := F_Bp) (N := 4) hx hb hts in_Bp hown hK hP 0 rfl rfl 0 (by decide) (hts _ kw_13) (fun _ h9 => h9) rfl d_Bp_take_47 ?_
  refine va_get (D := (dC, dI)) (ci := 1) (v := .int (if (8192 : Int32) < v0_output_count then (8192 : Int32) else v0_output_count)) (C := R_Row) (T := F_Row) (N := 3) hx hb hts in_Row hown hK hP 2 rfl rfl 1 (by decide) (hts _ kw_146) (fun _ h9 => h9) rfl d_Bp_take_50 ?_
  obtain rfl := Option.some.inj h
  exact W.iret (v := (if (8192 : Int32) < v0_output_count then (8192 : Int32) else v0_output_count)) hx hb hr (fun t ht hW => ⟨⟨(if (8192 : Int32) < v0_output_count then (8192 : Int32) else v0_output_count), (), rfl, rfl, by rw [ht]; exact hP.sub [0, 1, 2, 3, 4] rfl, hD.sub [0, 1, 2, 3, 4] (by decide) rfl⟩, hS.F ht⟩) hS.2.2 d_Bp_take_53
set_option maxHeartbeats 4000000 in
set_option maxRecDepth 100000 in
theorem c_Bp_take (l : Launch) (dC : Nat → ClassId) (dI : Nat → Nat → Nat) (cI cB cZ : ClassId) (tS : Nat) (a0 : Nat) (a0_input : Nat) (a0_output : Nat) (a0_packer : Nat) (a0_unpacker : Nat) (a0_output_bytes : Nat) (a0_input_bytes : Nat) (sz : Nat) (N : Nat) (v0_output_count : Int32) (v0_output_place : Int32) (v0_input_place : Int32) (n0_output_bytes : Nat) (f0_output_bytes : Nat → Int32) (n0_input_bytes : Nat) (v0_input_count : Int32) (f0_input_bytes : Nat → Int32) (x : Int32 × Int32 × (Nat → Int32)) (hf : (g_Bp_take_0 v0_output_count n0_output_bytes f0_output_bytes n0_input_bytes v0_input_count f0_input_bytes) = some x) : Met l y_Bp_take w_Bp_takeS rm_Bp_take (gz_Pc [.ref a0] (dC, dI) vwCl [(cI, .int), (cB, .byte), (cZ, .boolean)] tS [(a0, .inr (0, [.ref a0_input, .ref a0_output, .ref a0_packer, .ref a0_unpacker])), (a0_output, .inr (1, [.ref a0_output_bytes, .int v0_output_count, .int v0_output_place])), (a0_input, .inr (1, [.ref a0_input_bytes, .int v0_input_count, .int v0_input_place])), (a0_output_bytes, .inl (cB, n0_output_bytes, .inl f0_output_bytes)), (a0_input_bytes, .inl (cB, n0_input_bytes, .inl f0_input_bytes))] sz) (va_Qi (fun r (_ : Unit) => r = x.1) (gz_B (dC, dI) vwCl (va_A [(a0, .inr (0, [.ref a0_input, .ref a0_output, .ref a0_packer, .ref a0_unpacker])), (a0_output, .inr (1, [.ref a0_output_bytes, .int v0_output_count, .int v0_output_place])), (a0_input, .inr (1, [.ref a0_input_bytes, .int v0_input_count, .int v0_input_place])), (a0_output_bytes, .inl (cB, n0_output_bytes, .inl f0_output_bytes)), (a0_input_bytes, .inl (cB, n0_input_bytes, .inl f0_input_bytes))] sz) (e_Bp_take dC dI cI cB cZ a0 a0_input a0_output a0_packer a0_unpacker a0_output_bytes a0_input_bytes N v0_output_count v0_output_place v0_input_place n0_output_bytes f0_output_bytes n0_input_bytes x)) (va_A [(a0, .inr (0, [.ref a0_input, .ref a0_output, .ref a0_packer, .ref a0_unpacker])), (a0_output, .inr (1, [.ref a0_output_bytes, .int v0_output_count, .int v0_output_place])), (a0_input, .inr (1, [.ref a0_input_bytes, .int v0_input_count, .int v0_input_place])), (a0_output_bytes, .inl (cB, n0_output_bytes, .inl f0_output_bytes)), (a0_input_bytes, .inl (cB, n0_input_bytes, .inl f0_input_bytes))] sz)) 0 0 (va_A [(a0, .inr (0, [.ref a0_input, .ref a0_output, .ref a0_packer, .ref a0_unpacker])), (a0_output, .inr (1, [.ref a0_output_bytes, .int v0_output_count, .int v0_output_place])), (a0_input, .inr (1, [.ref a0_input_bytes, .int v0_input_count, .int v0_input_place])), (a0_output_bytes, .inl (cB, n0_output_bytes, .inl f0_output_bytes)), (a0_input_bytes, .inl (cB, n0_input_bytes, .inl f0_input_bytes))] sz) := by
  refine Met.ofW (cc := b_Bp_take) (maxL := 1) (ret := (some .int)) (by decide) rfl ?_
  intro p e s m args below meth c s₁ B hml hv
  obtain ⟨rfl, hsz, hP, hK, hD0, hE⟩ := hv
  subst hsz
  have hl := lv_entry ([.ref a0]) (n := 1) (Nat.le_of_ble_eq_true rfl)
  rw [lg_entry_eq]
  generalize (lg_sl ([.ref a0]) ++ List.replicate (1 - (lg_sl ([.ref a0])).length) Slot.unset).toArray = ls at hl ⊢
  have C0 : gz_C p s m _ meth c b_Bp_take 1 (some .int) R_Bp "take" gz_W _ (dC, dI) vwCl [(cI, .int), (cB, .byte), (cZ, .boolean)] tS := ⟨B.exec, B.bytes, B.returns, hml, findClass_of_methodNamed B.named, (name_of_methodNamed B.named B.method).1, fun w h => atoms_spec (ws := w_Bp_takeS) B.pre w (List.mem_cons_of_mem _ h), B.notSynchronized, fun q h => Or.inr h, hK, hE⟩
  exact w_Bp_take_0 C0 a0 a0_input a0_output a0_packer a0_unpacker a0_output_bytes a0_input_bytes N v0_output_count v0_output_place v0_input_place n0_output_bytes f0_output_bytes n0_input_bytes x v0_input_count f0_input_bytes hf _ _ _ hP (hD0.self (sz := s.heap.size)) va_S.rf (lv_sub hl [0] rfl)
abbrev rm_Bp_size : Room := { frames := 0, cells := 0, slots := 0, locals := 0 }
abbrev e_Bp_size (dC : Nat → ClassId) (dI : Nat → Nat → Nat) (cI cB cZ : ClassId) (a0 : Nat) (a0_input : Nat) (a0_output : Nat) (a0_packer : Nat) (a0_unpacker : Nat) (a0_output_bytes : Nat) (a0_input_bytes : Nat) (N : Nat) (v0_output_count : Int32) (v0_output_place : Int32) (v0_input_count : Int32) (v0_input_place : Int32) (x : Int32) (u : Unit) : va_W := [(a0, .inr (0, [.ref a0_input, .ref a0_output, .ref a0_packer, .ref a0_unpacker])), (a0_output, .inr (1, [.ref a0_output_bytes, .int v0_output_count, .int v0_output_place])), (a0_input, .inr (1, [.ref a0_input_bytes, .int v0_input_count, .int v0_input_place]))]
abbrev q_Bp_size (below : List Frame) (args : Array Value) (s : State) (dC : Nat → ClassId) (dI : Nat → Nat → Nat) (cI cB cZ : ClassId) (A : Nat → Prop) (a0 : Nat) (a0_input : Nat) (a0_output : Nat) (a0_packer : Nat) (a0_unpacker : Nat) (a0_output_bytes : Nat) (a0_input_bytes : Nat) (N : Nat) (v0_output_count : Int32) (v0_output_place : Int32) (v0_input_count : Int32) (v0_input_place : Int32) (x : Int32) : State → Prop := MQ below (va_Qi (fun r (_ : Unit) => r = x) (gz_B (dC, dI) vwCl A (e_Bp_size dC dI cI cB cZ a0 a0_input a0_output a0_packer a0_unpacker a0_output_bytes a0_input_bytes N v0_output_count v0_output_place v0_input_count v0_input_place x)) A) args s 0 0 A
def t_Bp_size_0 (p : Program) (l : Launch) (e : Env) (s : State) (m : MethodId) (args : Array Value) (below : List Frame) (meth : Method) (c : Code) (dC : Nat → ClassId) (dI : Nat → Nat → Nat) (cI cB cZ : ClassId) (tS : Nat) (A : Nat → Prop) (a0 : Nat) (a0_input : Nat) (a0_output : Nat) (a0_packer : Nat) (a0_unpacker : Nat) (a0_output_bytes : Nat) (a0_input_bytes : Nat) (N : Nat) (v0_output_count : Int32) (v0_output_place : Int32) (v0_input_count : Int32) (v0_input_place : Int32) (x : Int32) (F : Int32 → Option (Int32)) : Prop :=
  ∀ (x1 : Int32), F x1 = some x → ∀ (H : Heap) (locs : List Loc) (ls : Array Slot), va_P (dC, dI) vwCl [(a0, .inr (0, [.ref a0_input, .ref a0_output, .ref a0_packer, .ref a0_unpacker])), (a0_output, .inr (1, [.ref a0_output_bytes, .int v0_output_count, .int v0_output_place])), (a0_input, .inr (1, [.ref a0_input_bytes, .int v0_input_count, .int v0_input_place]))] H → va_D A [(a0, .inr (0, [.ref a0_input, .ref a0_output, .ref a0_packer, .ref a0_unpacker])), (a0_output, .inr (1, [.ref a0_output_bytes, .int v0_output_count, .int v0_output_place])), (a0_input, .inr (1, [.ref a0_input_bytes, .int v0_input_count, .int v0_input_place]))] → va_S A s.heap H locs → lv_has ls 2 [(0, .ref a0), (1, .int x1)] → W p l e rm_Bp_size s m args below meth c H locs 0 0 (q_Bp_size below args s dC dI cI cB cZ A a0 a0_input a0_output a0_packer a0_unpacker a0_output_bytes a0_input_bytes N v0_output_count v0_output_place v0_input_count v0_input_place x) (F0 m 0 ls [])
def g_Bp_size_0 (v0_output_count : Int32) (v0_input_count : Int32) (x1 : Int32) : Option (Int32) := (if x1 = 0 then some (v0_input_count) else (if x1 = (1 : Int32) then some (v0_output_count) else some ((-2 : Int32))))
set_option maxHeartbeats 4000000 in
set_option maxRecDepth 100000 in
theorem w_Bp_size_0 {p : Program} {l : Launch} {e : Env} {s : State} {m : MethodId} {args : Array Value} {below : List Frame} {meth : Method} {c : Code} {dC : Nat → ClassId} {dI : Nat → Nat → Nat} {cI cB cZ : ClassId} {tS : Nat} {A : Nat → Prop} (C0 : gz_C p s m args meth c b_Bp_size 2 (some .int) R_Bp "size" gz_W A (dC, dI) vwCl [(cI, .int), (cB, .byte), (cZ, .boolean)] tS) (a0 : Nat) (a0_input : Nat) (a0_output : Nat) (a0_packer : Nat) (a0_unpacker : Nat) (a0_output_bytes : Nat) (a0_input_bytes : Nat) (N : Nat) (v0_output_count : Int32) (v0_output_place : Int32) (v0_input_count : Int32) (v0_input_place : Int32) (x : Int32) : t_Bp_size_0 p l e s m args below meth c dC dI cI cB cZ tS A a0 a0_input a0_output a0_packer a0_unpacker a0_output_bytes a0_input_bytes N v0_output_count v0_output_place v0_input_count v0_input_place x (g_Bp_size_0 v0_output_count v0_input_count) := by
  obtain ⟨hx, hb, hr, hml, hown, hin0, hts, hlocks, hA, hK, hE⟩ := id C0
  intro x1 h H locs ls hP hD hS hl
  rw [g_Bp_size_0] at h
  refine lv_iload_n hx hb d_Bp_size_0 rfl (lv_at hl 1 rfl) ?_
  refine lv_if_ne (tgt := 12) hx hb d_Bp_size_1 (by decide) (fun c1 => ?_) (fun c1 => ?_)
  · have h := gz_f h c1
    refine lv_iload_n hx hb d_Bp_size_12 rfl (lv_at hl 1 rfl) ?_
    refine lv_iconst (v := (1 : Int32)) hx hb d_Bp_size_13 (by decide) ?_
    refine lv_icmp_ne (tgt := 27) hx hb d_Bp_size_14 (by decide) (fun c2 => ?_) (fun c2 => ?_)
    · have h := gz_f h c2
      refine lv_bipush (v := (-2 : Int32)) hx hb d_Bp_size_27 (by decide) ?_
      obtain rfl := Option.some.inj h
      exact W.iret (v := (-2 : Int32)) hx hb hr (fun t ht hW => ⟨⟨(-2 : Int32), (), rfl, rfl, by rw [ht]; exact hP.sub [0, 1, 2] rfl, hD.sub [0, 1, 2] (by decide) rfl⟩, hS.F ht⟩) hS.2.2 d_Bp_size_29
    · have h := gz_t h c2
      refine lv_aload_n hx hb d_Bp_size_17 rfl (lv_at hl 0 rfl) ?_
      refine va_get (D := (dC, dI)) (ci := 0) (v := .ref a0_output) (C := R_Bp) (T := F_Bp) (N := 4) hx hb hts in_Bp hown hK hP 0 rfl rfl 1 (by decide) (hts _ kw_14) (fun _ h9 => h9) rfl d_Bp_size_18 ?_
      refine va_get (D := (dC, dI)) (ci := 1) (v := .int v0_output_count) (C := R_Row) (T := F_Row) (N := 3) hx hb hts in_Row hown hK hP 1 rfl rfl 1 (by decide) (hts _ kw_146) (fun _ h9 => h9) rfl d_Bp_size_21 ?_
      refine lv_goto (tgt := 29) hx hb d_Bp_size_24 (by decide) ?_
      obtain rfl := Option.some.inj h
      exact W.iret (v := v0_output_count) hx hb hr (fun t ht hW => ⟨⟨v0_output_count, (), rfl, rfl, by rw [ht]; exact hP.sub [0, 1, 2] rfl, hD.sub [0, 1, 2] (by decide) rfl⟩, hS.F ht⟩) hS.2.2 d_Bp_size_29
  · have h := gz_t h c1
    refine lv_aload_n hx hb d_Bp_size_4 rfl (lv_at hl 0 rfl) ?_
    refine va_get (D := (dC, dI)) (ci := 0) (v := .ref a0_input) (C := R_Bp) (T := F_Bp) (N := 4) hx hb hts in_Bp hown hK hP 0 rfl rfl 0 (by decide) (hts _ kw_13) (fun _ h9 => h9) rfl d_Bp_size_5 ?_
    refine va_get (D := (dC, dI)) (ci := 1) (v := .int v0_input_count) (C := R_Row) (T := F_Row) (N := 3) hx hb hts in_Row hown hK hP 2 rfl rfl 1 (by decide) (hts _ kw_146) (fun _ h9 => h9) rfl d_Bp_size_8 ?_
    obtain rfl := Option.some.inj h
    exact W.iret (v := v0_input_count) hx hb hr (fun t ht hW => ⟨⟨v0_input_count, (), rfl, rfl, by rw [ht]; exact hP.sub [0, 1, 2] rfl, hD.sub [0, 1, 2] (by decide) rfl⟩, hS.F ht⟩) hS.2.2 d_Bp_size_11
set_option maxHeartbeats 4000000 in
set_option maxRecDepth 100000 in
theorem c_Bp_size (l : Launch) (dC : Nat → ClassId) (dI : Nat → Nat → Nat) (cI cB cZ : ClassId) (tS : Nat) (a0 : Nat) (a0_input : Nat) (a0_output : Nat) (a0_packer : Nat) (a0_unpacker : Nat) (a0_output_bytes : Nat) (a0_input_bytes : Nat) (sz : Nat) (N : Nat) (v0_output_count : Int32) (v0_output_place : Int32) (v0_input_count : Int32) (v0_input_place : Int32) (x1 : Int32) (x : Int32) (hf : (g_Bp_size_0 v0_output_count v0_input_count x1) = some x) : Met l y_Bp_size w_Bp_sizeS rm_Bp_size (gz_Pc [.ref a0, .int x1] (dC, dI) vwCl [(cI, .int), (cB, .byte), (cZ, .boolean)] tS [(a0, .inr (0, [.ref a0_input, .ref a0_output, .ref a0_packer, .ref a0_unpacker])), (a0_output, .inr (1, [.ref a0_output_bytes, .int v0_output_count, .int v0_output_place])), (a0_input, .inr (1, [.ref a0_input_bytes, .int v0_input_count, .int v0_input_place]))] sz) (va_Qi (fun r (_ : Unit) => r = x) (gz_B (dC, dI) vwCl (va_A [(a0, .inr (0, [.ref a0_input, .ref a0_output, .ref a0_packer, .ref a0_unpacker])), (a0_output, .inr (1, [.ref a0_output_bytes, .int v0_output_count, .int v0_output_place])), (a0_input, .inr (1, [.ref a0_input_bytes, .int v0_input_count, .int v0_input_place]))] sz) (e_Bp_size dC dI cI cB cZ a0 a0_input a0_output a0_packer a0_unpacker a0_output_bytes a0_input_bytes N v0_output_count v0_output_place v0_input_count v0_input_place x)) (va_A [(a0, .inr (0, [.ref a0_input, .ref a0_output, .ref a0_packer, .ref a0_unpacker])), (a0_output, .inr (1, [.ref a0_output_bytes, .int v0_output_count, .int v0_output_place])), (a0_input, .inr (1, [.ref a0_input_bytes, .int v0_input_count, .int v0_input_place]))] sz)) 0 0 (va_A [(a0, .inr (0, [.ref a0_input, .ref a0_output, .ref a0_packer, .ref a0_unpacker])), (a0_output, .inr (1, [.ref a0_output_bytes, .int v0_output_count, .int v0_output_place])), (a0_input, .inr (1, [.ref a0_input_bytes, .int v0_input_count, .int v0_input_place]))] sz) := by
  refine Met.ofW (cc := b_Bp_size) (maxL := 2) (ret := (some .int)) (by decide) rfl ?_
  intro p e s m args below meth c s₁ B hml hv
  obtain ⟨rfl, hsz, hP, hK, hD0, hE⟩ := hv
  subst hsz
  have hl := lv_entry ([.ref a0, .int x1]) (n := 2) (Nat.le_of_ble_eq_true rfl)
  rw [lg_entry_eq]
  generalize (lg_sl ([.ref a0, .int x1]) ++ List.replicate (2 - (lg_sl ([.ref a0, .int x1])).length) Slot.unset).toArray = ls at hl ⊢
  have C0 : gz_C p s m _ meth c b_Bp_size 2 (some .int) R_Bp "size" gz_W _ (dC, dI) vwCl [(cI, .int), (cB, .byte), (cZ, .boolean)] tS := ⟨B.exec, B.bytes, B.returns, hml, findClass_of_methodNamed B.named, (name_of_methodNamed B.named B.method).1, fun w h => atoms_spec (ws := w_Bp_sizeS) B.pre w (List.mem_cons_of_mem _ h), B.notSynchronized, fun q h => Or.inr h, hK, hE⟩
  exact w_Bp_size_0 C0 a0 a0_input a0_output a0_packer a0_unpacker a0_output_bytes a0_input_bytes N v0_output_count v0_output_place v0_input_count v0_input_place x x1 hf _ _ _ hP (hD0.self (sz := s.heap.size)) va_S.rf (lv_sub hl [0, 1] rfl)
abbrev rm_Bp_at : Room := { frames := 1, cells := 0, slots := 0, locals := 21 }
abbrev e_Bp_at (dC : Nat → ClassId) (dI : Nat → Nat → Nat) (cI cB cZ : ClassId) (a0 : Nat) (a0_input : Nat) (a0_output : Nat) (a0_packer : Nat) (a0_unpacker : Nat) (a0_output_bytes : Nat) (a0_input_bytes : Nat) (N : Nat) (v0_output_count : Int32) (v0_output_place : Int32) (n0_output_bytes : Nat) (f0_output_bytes : Nat → Int32) (v0_input_count : Int32) (v0_input_place : Int32) (n0_input_bytes : Nat) (f0_input_bytes : Nat → Int32) (x : Int32) (u : Unit) : va_W := [(a0, .inr (0, [.ref a0_input, .ref a0_output, .ref a0_packer, .ref a0_unpacker])), (a0_output, .inr (1, [.ref a0_output_bytes, .int v0_output_count, .int v0_output_place])), (a0_output_bytes, .inl (cB, n0_output_bytes, .inl f0_output_bytes)), (a0_input, .inr (1, [.ref a0_input_bytes, .int v0_input_count, .int v0_input_place])), (a0_input_bytes, .inl (cB, n0_input_bytes, .inl f0_input_bytes))]
abbrev q_Bp_at (below : List Frame) (args : Array Value) (s : State) (dC : Nat → ClassId) (dI : Nat → Nat → Nat) (cI cB cZ : ClassId) (A : Nat → Prop) (a0 : Nat) (a0_input : Nat) (a0_output : Nat) (a0_packer : Nat) (a0_unpacker : Nat) (a0_output_bytes : Nat) (a0_input_bytes : Nat) (N : Nat) (v0_output_count : Int32) (v0_output_place : Int32) (n0_output_bytes : Nat) (f0_output_bytes : Nat → Int32) (v0_input_count : Int32) (v0_input_place : Int32) (n0_input_bytes : Nat) (f0_input_bytes : Nat → Int32) (x : Int32) : State → Prop := MQ below (va_Qi (fun r (_ : Unit) => r = x) (gz_B (dC, dI) vwCl A (e_Bp_at dC dI cI cB cZ a0 a0_input a0_output a0_packer a0_unpacker a0_output_bytes a0_input_bytes N v0_output_count v0_output_place n0_output_bytes f0_output_bytes v0_input_count v0_input_place n0_input_bytes f0_input_bytes x)) A) args s 0 0 A
def t_Bp_at_0 (p : Program) (l : Launch) (e : Env) (s : State) (m : MethodId) (args : Array Value) (below : List Frame) (meth : Method) (c : Code) (dC : Nat → ClassId) (dI : Nat → Nat → Nat) (cI cB cZ : ClassId) (tS : Nat) (A : Nat → Prop) (a0 : Nat) (a0_input : Nat) (a0_output : Nat) (a0_packer : Nat) (a0_unpacker : Nat) (a0_output_bytes : Nat) (a0_input_bytes : Nat) (N : Nat) (v0_output_count : Int32) (v0_output_place : Int32) (n0_output_bytes : Nat) (f0_output_bytes : Nat → Int32) (v0_input_count : Int32) (v0_input_place : Int32) (n0_input_bytes : Nat) (f0_input_bytes : Nat → Int32) (x : Int32) (F : Int32 → Int32 → Option (Int32)) : Prop :=
  ∀ (x1 : Int32) (x2 : Int32), F x1 x2 = some x → ∀ (H : Heap) (locs : List Loc) (ls : Array Slot), va_P (dC, dI) vwCl [(a0, .inr (0, [.ref a0_input, .ref a0_output, .ref a0_packer, .ref a0_unpacker])), (a0_output, .inr (1, [.ref a0_output_bytes, .int v0_output_count, .int v0_output_place])), (a0_output_bytes, .inl (cB, n0_output_bytes, .inl f0_output_bytes)), (a0_input, .inr (1, [.ref a0_input_bytes, .int v0_input_count, .int v0_input_place])), (a0_input_bytes, .inl (cB, n0_input_bytes, .inl f0_input_bytes))] H → va_D A [(a0, .inr (0, [.ref a0_input, .ref a0_output, .ref a0_packer, .ref a0_unpacker])), (a0_output, .inr (1, [.ref a0_output_bytes, .int v0_output_count, .int v0_output_place])), (a0_output_bytes, .inl (cB, n0_output_bytes, .inl f0_output_bytes)), (a0_input, .inr (1, [.ref a0_input_bytes, .int v0_input_count, .int v0_input_place])), (a0_input_bytes, .inl (cB, n0_input_bytes, .inl f0_input_bytes))] → va_S A s.heap H locs → lv_has ls 3 [(0, .ref a0), (1, .int x1), (2, .int x2)] → W p l e rm_Bp_at s m args below meth c H locs 0 0 (q_Bp_at below args s dC dI cI cB cZ A a0 a0_input a0_output a0_packer a0_unpacker a0_output_bytes a0_input_bytes N v0_output_count v0_output_place n0_output_bytes f0_output_bytes v0_input_count v0_input_place n0_input_bytes f0_input_bytes x) (F0 m 0 ls [])
def g_Bp_at_0 (v0_output_count : Int32) (n0_output_bytes : Nat) (f0_output_bytes : Nat → Int32) (v0_input_count : Int32) (n0_input_bytes : Nat) (f0_input_bytes : Nat → Int32) (x1 : Int32) (x2 : Int32) : Option (Int32) := (if x1 = 0 then (Option.bind (g_Row_byteAt_0 v0_input_count n0_input_bytes f0_input_bytes x2) (fun r4 => some (r4))) else (if x1 = (1 : Int32) then (Option.bind (g_Row_byteAt_0 v0_output_count n0_output_bytes f0_output_bytes x2) (fun r3 => some (r3))) else some ((-1 : Int32))))
set_option maxHeartbeats 4000000 in
set_option maxRecDepth 100000 in
theorem w_Bp_at_0 {p : Program} {l : Launch} {e : Env} {s : State} {m : MethodId} {args : Array Value} {below : List Frame} {meth : Method} {c : Code} {dC : Nat → ClassId} {dI : Nat → Nat → Nat} {cI cB cZ : ClassId} {tS : Nat} {A : Nat → Prop} (C0 : gz_C p s m args meth c b_Bp_at 3 (some .int) R_Bp "at" gz_W A (dC, dI) vwCl [(cI, .int), (cB, .byte), (cZ, .boolean)] tS) (a0 : Nat) (a0_input : Nat) (a0_output : Nat) (a0_packer : Nat) (a0_unpacker : Nat) (a0_output_bytes : Nat) (a0_input_bytes : Nat) (N : Nat) (v0_output_count : Int32) (v0_output_place : Int32) (n0_output_bytes : Nat) (f0_output_bytes : Nat → Int32) (v0_input_count : Int32) (v0_input_place : Int32) (n0_input_bytes : Nat) (f0_input_bytes : Nat → Int32) (x : Int32) : t_Bp_at_0 p l e s m args below meth c dC dI cI cB cZ tS A a0 a0_input a0_output a0_packer a0_unpacker a0_output_bytes a0_input_bytes N v0_output_count v0_output_place n0_output_bytes f0_output_bytes v0_input_count v0_input_place n0_input_bytes f0_input_bytes x (g_Bp_at_0 v0_output_count n0_output_bytes f0_output_bytes v0_input_count n0_input_bytes f0_input_bytes) := by
  obtain ⟨hx, hb, hr, hml, hown, hin0, hts, hlocks, hA, hK, hE⟩ := id C0
  intro x1 x2 h H locs ls hP hD hS hl
  rw [g_Bp_at_0] at h
  refine lv_iload_n hx hb d_Bp_at_0 rfl (lv_at hl 1 rfl) ?_
  refine lv_if_ne (tgt := 13) hx hb d_Bp_at_1 (by decide) (fun c1 => ?_) (fun c1 => ?_)
  · have h := gz_f h c1
    refine lv_iload_n hx hb d_Bp_at_13 rfl (lv_at hl 1 rfl) ?_
    refine lv_iconst (v := (1 : Int32)) hx hb d_Bp_at_14 (by decide) ?_
    refine lv_icmp_ne (tgt := 29) hx hb d_Bp_at_15 (by decide) (fun c2 => ?_) (fun c2 => ?_)
    · have h := gz_f h c2
      refine lv_iconst (v := (-1 : Int32)) hx hb d_Bp_at_29 (by decide) ?_
      obtain rfl := Option.some.inj h
      exact W.iret (v := (-1 : Int32)) hx hb hr (fun t ht hW => ⟨⟨(-1 : Int32), (), rfl, rfl, by rw [ht]; exact hP.sub [0, 1, 2, 3, 4] rfl, hD.sub [0, 1, 2, 3, 4] (by decide) rfl⟩, hS.F ht⟩) hS.2.2 d_Bp_at_30
    · have h := gz_t h c2
      refine lv_aload_n hx hb d_Bp_at_18 rfl (lv_at hl 0 rfl) ?_
      refine va_get (D := (dC, dI)) (ci := 0) (v := .ref a0_output) (C := R_Bp) (T := F_Bp) (N := 4) hx hb hts in_Bp hown hK hP 0 rfl rfl 1 (by decide) (hts _ kw_14) (fun _ h9 => h9) rfl d_Bp_at_19 ?_
      refine lv_iload_n hx hb d_Bp_at_22 rfl (lv_at hl 2 rfl) ?_
      obtain ⟨r3, hcr3, h⟩ := gz_b h
      refine gz_ci hP hD hS hA [1, 2] [0, 3, 4] (wr := [(a0, .inr (0, [.ref a0_input, .ref a0_output, .ref a0_packer, .ref a0_unpacker])), (a0_input, .inr (1, [.ref a0_input_bytes, .int v0_input_count, .int v0_input_place])), (a0_input_bytes, .inl (cB, n0_input_bytes, .inl f0_input_bytes))]) rfl rfl (by decide) (by decide) (va_runV (As := [.int x2]) (rest := []) ⟨hx, hb, hml, hown, hts⟩ (c_Row_byteAt l dC dI cI cB cZ tS a0_output a0_output_bytes H.size N v0_output_count v0_output_place n0_output_bytes f0_output_bytes x2 r3 hcr3) (cwV 1 hts (gz_gV kw_157 kw_158 kw_159 kw_5 kw_156) rfl rfl rfl (by decide +kernel) ⟨(Nat.le_of_ble_eq_true rfl), (Nat.le_of_ble_eq_true rfl)⟩) (gz_preV hK hE hP hD hS hA [1, 2] (by decide) rfl 1 1 rfl rfl) rfl rfl hl.1 rfl (lv_room (Nat.le_of_ble_eq_true rfl)) d_Bp_at_23 ⟨(Nat.le_of_ble_eq_true rfl), (Nat.le_of_ble_eq_true rfl)⟩) (fun _ H locs hP hD hS => ?_)
      have hP : va_P (dC, dI) vwCl [(a0, .inr (0, [.ref a0_input, .ref a0_output, .ref a0_packer, .ref a0_unpacker])), (a0_input, .inr (1, [.ref a0_input_bytes, .int v0_input_count, .int v0_input_place])), (a0_input_bytes, .inl (cB, n0_input_bytes, .inl f0_input_bytes)), (a0_output, .inr (1, [.ref a0_output_bytes, .int v0_output_count, .int v0_output_place])), (a0_output_bytes, .inl (cB, n0_output_bytes, .inl f0_output_bytes))] H := hP
      have hD : va_D A [(a0, .inr (0, [.ref a0_input, .ref a0_output, .ref a0_packer, .ref a0_unpacker])), (a0_input, .inr (1, [.ref a0_input_bytes, .int v0_input_count, .int v0_input_place])), (a0_input_bytes, .inl (cB, n0_input_bytes, .inl f0_input_bytes)), (a0_output, .inr (1, [.ref a0_output_bytes, .int v0_output_count, .int v0_output_place])), (a0_output_bytes, .inl (cB, n0_output_bytes, .inl f0_output_bytes))] := hD
      refine lv_goto (tgt := 30) hx hb d_Bp_at_26 (by decide) ?_
      obtain rfl := Option.some.inj h
      exact W.iret (v := r3) hx hb hr (fun t ht hW => ⟨⟨r3, (), rfl, rfl, by rw [ht]; exact hP.sub [0, 3, 4, 1, 2] rfl, hD.sub [0, 3, 4, 1, 2] (by decide) rfl⟩, hS.F ht⟩) hS.2.2 d_Bp_at_30
  · have h := gz_t h c1
    refine lv_aload_n hx hb d_Bp_at_4 rfl (lv_at hl 0 rfl) ?_
    refine va_get (D := (dC, dI)) (ci := 0) (v := .ref a0_input) (C := R_Bp) (T := F_Bp) (N := 4) hx hb hts in_Bp hown hK hP 0 rfl rfl 0 (by decide) (hts _ kw_13) (fun _ h9 => h9) rfl d_Bp_at_5 ?_
    refine lv_iload_n hx hb d_Bp_at_8 rfl (lv_at hl 2 rfl) ?_
    obtain ⟨r4, hcr4, h⟩ := gz_b h
    refine gz_ci hP hD hS hA [3, 4] [0, 1, 2] (wr := [(a0, .inr (0, [.ref a0_input, .ref a0_output, .ref a0_packer, .ref a0_unpacker])), (a0_output, .inr (1, [.ref a0_output_bytes, .int v0_output_count, .int v0_output_place])), (a0_output_bytes, .inl (cB, n0_output_bytes, .inl f0_output_bytes))]) rfl rfl (by decide) (by decide) (va_runV (As := [.int x2]) (rest := []) ⟨hx, hb, hml, hown, hts⟩ (c_Row_byteAt l dC dI cI cB cZ tS a0_input a0_input_bytes H.size N v0_input_count v0_input_place n0_input_bytes f0_input_bytes x2 r4 hcr4) (cwV 1 hts (gz_gV kw_157 kw_158 kw_159 kw_5 kw_156) rfl rfl rfl (by decide +kernel) ⟨(Nat.le_of_ble_eq_true rfl), (Nat.le_of_ble_eq_true rfl)⟩) (gz_preV hK hE hP hD hS hA [3, 4] (by decide) rfl 3 1 rfl rfl) rfl rfl hl.1 rfl (lv_room (Nat.le_of_ble_eq_true rfl)) d_Bp_at_9 ⟨(Nat.le_of_ble_eq_true rfl), (Nat.le_of_ble_eq_true rfl)⟩) (fun _ H locs hP hD hS => ?_)
    have hP : va_P (dC, dI) vwCl [(a0, .inr (0, [.ref a0_input, .ref a0_output, .ref a0_packer, .ref a0_unpacker])), (a0_output, .inr (1, [.ref a0_output_bytes, .int v0_output_count, .int v0_output_place])), (a0_output_bytes, .inl (cB, n0_output_bytes, .inl f0_output_bytes)), (a0_input, .inr (1, [.ref a0_input_bytes, .int v0_input_count, .int v0_input_place])), (a0_input_bytes, .inl (cB, n0_input_bytes, .inl f0_input_bytes))] H := hP
    have hD : va_D A [(a0, .inr (0, [.ref a0_input, .ref a0_output, .ref a0_packer, .ref a0_unpacker])), (a0_output, .inr (1, [.ref a0_output_bytes, .int v0_output_count, .int v0_output_place])), (a0_output_bytes, .inl (cB, n0_output_bytes, .inl f0_output_bytes)), (a0_input, .inr (1, [.ref a0_input_bytes, .int v0_input_count, .int v0_input_place])), (a0_input_bytes, .inl (cB, n0_input_bytes, .inl f0_input_bytes))] := hD
    obtain rfl := Option.some.inj h
    exact W.iret (v := r4) hx hb hr (fun t ht hW => ⟨⟨r4, (), rfl, rfl, by rw [ht]; exact hP.sub [0, 1, 2, 3, 4] rfl, hD.sub [0, 1, 2, 3, 4] (by decide) rfl⟩, hS.F ht⟩) hS.2.2 d_Bp_at_12
set_option maxHeartbeats 4000000 in
set_option maxRecDepth 100000 in
theorem c_Bp_at (l : Launch) (dC : Nat → ClassId) (dI : Nat → Nat → Nat) (cI cB cZ : ClassId) (tS : Nat) (a0 : Nat) (a0_input : Nat) (a0_output : Nat) (a0_packer : Nat) (a0_unpacker : Nat) (a0_output_bytes : Nat) (a0_input_bytes : Nat) (sz : Nat) (N : Nat) (v0_output_count : Int32) (v0_output_place : Int32) (n0_output_bytes : Nat) (f0_output_bytes : Nat → Int32) (v0_input_count : Int32) (v0_input_place : Int32) (n0_input_bytes : Nat) (f0_input_bytes : Nat → Int32) (x1 : Int32) (x2 : Int32) (x : Int32) (hf : (g_Bp_at_0 v0_output_count n0_output_bytes f0_output_bytes v0_input_count n0_input_bytes f0_input_bytes x1 x2) = some x) : Met l y_Bp_at w_Bp_atS rm_Bp_at (gz_Pc [.ref a0, .int x1, .int x2] (dC, dI) vwCl [(cI, .int), (cB, .byte), (cZ, .boolean)] tS [(a0, .inr (0, [.ref a0_input, .ref a0_output, .ref a0_packer, .ref a0_unpacker])), (a0_output, .inr (1, [.ref a0_output_bytes, .int v0_output_count, .int v0_output_place])), (a0_output_bytes, .inl (cB, n0_output_bytes, .inl f0_output_bytes)), (a0_input, .inr (1, [.ref a0_input_bytes, .int v0_input_count, .int v0_input_place])), (a0_input_bytes, .inl (cB, n0_input_bytes, .inl f0_input_bytes))] sz) (va_Qi (fun r (_ : Unit) => r = x) (gz_B (dC, dI) vwCl (va_A [(a0, .inr (0, [.ref a0_input, .ref a0_output, .ref a0_packer, .ref a0_unpacker])), (a0_output, .inr (1, [.ref a0_output_bytes, .int v0_output_count, .int v0_output_place])), (a0_output_bytes, .inl (cB, n0_output_bytes, .inl f0_output_bytes)), (a0_input, .inr (1, [.ref a0_input_bytes, .int v0_input_count, .int v0_input_place])), (a0_input_bytes, .inl (cB, n0_input_bytes, .inl f0_input_bytes))] sz) (e_Bp_at dC dI cI cB cZ a0 a0_input a0_output a0_packer a0_unpacker a0_output_bytes a0_input_bytes N v0_output_count v0_output_place n0_output_bytes f0_output_bytes v0_input_count v0_input_place n0_input_bytes f0_input_bytes x)) (va_A [(a0, .inr (0, [.ref a0_input, .ref a0_output, .ref a0_packer, .ref a0_unpacker])), (a0_output, .inr (1, [.ref a0_output_bytes, .int v0_output_count, .int v0_output_place])), (a0_output_bytes, .inl (cB, n0_output_bytes, .inl f0_output_bytes)), (a0_input, .inr (1, [.ref a0_input_bytes, .int v0_input_count, .int v0_input_place])), (a0_input_bytes, .inl (cB, n0_input_bytes, .inl f0_input_bytes))] sz)) 0 0 (va_A [(a0, .inr (0, [.ref a0_input, .ref a0_output, .ref a0_packer, .ref a0_unpacker])), (a0_output, .inr (1, [.ref a0_output_bytes, .int v0_output_count, .int v0_output_place])), (a0_output_bytes, .inl (cB, n0_output_bytes, .inl f0_output_bytes)), (a0_input, .inr (1, [.ref a0_input_bytes, .int v0_input_count, .int v0_input_place])), (a0_input_bytes, .inl (cB, n0_input_bytes, .inl f0_input_bytes))] sz) := by
  refine Met.ofW (cc := b_Bp_at) (maxL := 3) (ret := (some .int)) (by decide) rfl ?_
  intro p e s m args below meth c s₁ B hml hv
  obtain ⟨rfl, hsz, hP, hK, hD0, hE⟩ := hv
  subst hsz
  have hl := lv_entry ([.ref a0, .int x1, .int x2]) (n := 3) (Nat.le_of_ble_eq_true rfl)
  rw [lg_entry_eq]
  generalize (lg_sl ([.ref a0, .int x1, .int x2]) ++ List.replicate (3 - (lg_sl ([.ref a0, .int x1, .int x2])).length) Slot.unset).toArray = ls at hl ⊢
  have C0 : gz_C p s m _ meth c b_Bp_at 3 (some .int) R_Bp "at" gz_W _ (dC, dI) vwCl [(cI, .int), (cB, .byte), (cZ, .boolean)] tS := ⟨B.exec, B.bytes, B.returns, hml, findClass_of_methodNamed B.named, (name_of_methodNamed B.named B.method).1, fun w h => atoms_spec (ws := w_Bp_atS) B.pre w (List.mem_cons_of_mem _ h), B.notSynchronized, fun q h => Or.inr h, hK, hE⟩
  exact w_Bp_at_0 C0 a0 a0_input a0_output a0_packer a0_unpacker a0_output_bytes a0_input_bytes N v0_output_count v0_output_place n0_output_bytes f0_output_bytes v0_input_count v0_input_place n0_input_bytes f0_input_bytes x x1 x2 hf _ _ _ hP (hD0.self (sz := s.heap.size)) va_S.rf (lv_sub hl [0, 1, 2] rfl)
abbrev rm_Row_clear : Room := { frames := 0, cells := 0, slots := 0, locals := 0 }
abbrev e_Row_clear (dC : Nat → ClassId) (dI : Nat → Nat → Nat) (cI cB cZ : ClassId) (a0 : Nat) (a0_bytes : Nat) (N : Nat) (x : Int32 × Int32) (u : Unit) : va_W := [(a0, .inr (1, [.ref a0_bytes, .int x.1, .int x.2]))]
abbrev q_Row_clear (below : List Frame) (args : Array Value) (s : State) (dC : Nat → ClassId) (dI : Nat → Nat → Nat) (cI cB cZ : ClassId) (A : Nat → Prop) (a0 : Nat) (a0_bytes : Nat) (N : Nat) (x : Int32 × Int32) : State → Prop := MQ below (va_Qv (fun (_ : Unit) => True) (gz_B (dC, dI) vwCl A (e_Row_clear dC dI cI cB cZ a0 a0_bytes N x)) A) args s 0 0 A
def t_Row_clear_0 (p : Program) (l : Launch) (e : Env) (s : State) (m : MethodId) (args : Array Value) (below : List Frame) (meth : Method) (c : Code) (dC : Nat → ClassId) (dI : Nat → Nat → Nat) (cI cB cZ : ClassId) (tS : Nat) (A : Nat → Prop) (a0 : Nat) (a0_bytes : Nat) (N : Nat) (x : Int32 × Int32) (F : Int32 → Int32 → Option (Int32 × Int32)) : Prop :=
  ∀ (v0_count : Int32) (v0_place : Int32), F v0_count v0_place = some x → ∀ (H : Heap) (locs : List Loc) (ls : Array Slot), va_P (dC, dI) vwCl [(a0, .inr (1, [.ref a0_bytes, .int v0_count, .int v0_place]))] H → va_D A [(a0, .inr (1, [.ref a0_bytes, .int v0_count, .int v0_place]))] → va_S A s.heap H locs → lv_has ls 1 [(0, .ref a0)] → W p l e rm_Row_clear s m args below meth c H locs 0 0 (q_Row_clear below args s dC dI cI cB cZ A a0 a0_bytes N x) (F0 m 0 ls [])
def g_Row_clear_0 (v0_count : Int32) (v0_place : Int32) : Option (Int32 × Int32) := some ((0 : Int32), (0 : Int32))
set_option maxHeartbeats 4000000 in
set_option maxRecDepth 100000 in
theorem w_Row_clear_0 {p : Program} {l : Launch} {e : Env} {s : State} {m : MethodId} {args : Array Value} {below : List Frame} {meth : Method} {c : Code} {dC : Nat → ClassId} {dI : Nat → Nat → Nat} {cI cB cZ : ClassId} {tS : Nat} {A : Nat → Prop} (C0 : gz_C p s m args meth c b_Row_clear 1 none R_Row "clear" gz_W A (dC, dI) vwCl [(cI, .int), (cB, .byte), (cZ, .boolean)] tS) (a0 : Nat) (a0_bytes : Nat) (N : Nat) (x : Int32 × Int32) : t_Row_clear_0 p l e s m args below meth c dC dI cI cB cZ tS A a0 a0_bytes N x (g_Row_clear_0) := by
  obtain ⟨hx, hb, hr, hml, hown, hin0, hts, hlocks, hA, hK, hE⟩ := id C0
  intro v0_count v0_place h H locs ls hP hD hS hl
  rw [g_Row_clear_0] at h
  refine lv_aload_n hx hb d_Row_clear_0 rfl (lv_at hl 0 rfl) ?_
  refine lv_iconst (v := (0 : Int32)) hx hb d_Row_clear_1 (by decide) ?_
  refine va_put (D := (dC, dI)) (ci := 1) (v := .int (0 : Int32)) (ty := .int) (C := R_Row) (T := F_Row) (N := 3) hx hb hts in_Row t_Row t_Row_ok n_Row hown hK hP hD hS 0 rfl rfl 1 (by decide) (hts _ kw_9) (fun _ h9 => h9) rfl (by decide +kernel) rfl rfl (Nat.le_of_ble_eq_true rfl) d_Row_clear_2 (fun H locs hP hD hS => ?_)
  have hP : va_P (dC, dI) vwCl [(a0, .inr (1, [.ref a0_bytes, .int (0 : Int32), .int v0_place]))] H := hP
  have hD : va_D A [(a0, .inr (1, [.ref a0_bytes, .int (0 : Int32), .int v0_place]))] := hD
  refine lv_aload_n hx hb d_Row_clear_5 rfl (lv_at hl 0 rfl) ?_
  refine lv_iconst (v := (0 : Int32)) hx hb d_Row_clear_6 (by decide) ?_
  refine va_put (D := (dC, dI)) (ci := 1) (v := .int (0 : Int32)) (ty := .int) (C := R_Row) (T := F_Row) (N := 3) hx hb hts in_Row t_Row t_Row_ok n_Row hown hK hP hD hS 0 rfl rfl 2 (by decide) (hts _ kw_10) (fun _ h9 => h9) rfl (by decide +kernel) rfl rfl (Nat.le_of_ble_eq_true rfl) d_Row_clear_7 (fun H locs hP hD hS => ?_)
  have hP : va_P (dC, dI) vwCl [(a0, .inr (1, [.ref a0_bytes, .int (0 : Int32), .int (0 : Int32)]))] H := hP
  have hD : va_D A [(a0, .inr (1, [.ref a0_bytes, .int (0 : Int32), .int (0 : Int32)]))] := hD
  obtain rfl := Option.some.inj h
  exact W.vret hx hb hr (fun t ht hW => ⟨⟨(), rfl, trivial, by rw [ht]; exact hP.sub [0] rfl, hD.sub [0] (by decide) rfl⟩, hS.F ht⟩) hS.2.2 d_Row_clear_10
set_option maxHeartbeats 4000000 in
set_option maxRecDepth 100000 in
theorem c_Row_clear (l : Launch) (dC : Nat → ClassId) (dI : Nat → Nat → Nat) (cI cB cZ : ClassId) (tS : Nat) (a0 : Nat) (a0_bytes : Nat) (sz : Nat) (N : Nat) (v0_count : Int32) (v0_place : Int32) (x : Int32 × Int32) (hf : (g_Row_clear_0 v0_count v0_place) = some x) : Met l y_Row_clear w_Row_clearS rm_Row_clear (gz_Pc [.ref a0] (dC, dI) vwCl [(cI, .int), (cB, .byte), (cZ, .boolean)] tS [(a0, .inr (1, [.ref a0_bytes, .int v0_count, .int v0_place]))] sz) (va_Qv (fun (_ : Unit) => True) (gz_B (dC, dI) vwCl (va_A [(a0, .inr (1, [.ref a0_bytes, .int v0_count, .int v0_place]))] sz) (e_Row_clear dC dI cI cB cZ a0 a0_bytes N x)) (va_A [(a0, .inr (1, [.ref a0_bytes, .int v0_count, .int v0_place]))] sz)) 0 0 (va_A [(a0, .inr (1, [.ref a0_bytes, .int v0_count, .int v0_place]))] sz) := by
  refine Met.ofW (cc := b_Row_clear) (maxL := 1) (ret := none) (by decide) rfl ?_
  intro p e s m args below meth c s₁ B hml hv
  obtain ⟨rfl, hsz, hP, hK, hD0, hE⟩ := hv
  subst hsz
  have hl := lv_entry ([.ref a0]) (n := 1) (Nat.le_of_ble_eq_true rfl)
  rw [lg_entry_eq]
  generalize (lg_sl ([.ref a0]) ++ List.replicate (1 - (lg_sl ([.ref a0])).length) Slot.unset).toArray = ls at hl ⊢
  have C0 : gz_C p s m _ meth c b_Row_clear 1 none R_Row "clear" gz_W _ (dC, dI) vwCl [(cI, .int), (cB, .byte), (cZ, .boolean)] tS := ⟨B.exec, B.bytes, B.returns, hml, findClass_of_methodNamed B.named, (name_of_methodNamed B.named B.method).1, fun w h => atoms_spec (ws := w_Row_clearS) B.pre w (List.mem_cons_of_mem _ h), B.notSynchronized, fun q h => Or.inr h, hK, hE⟩
  exact w_Row_clear_0 C0 a0 a0_bytes N x v0_count v0_place hf _ _ _ hP (hD0.self (sz := s.heap.size)) va_S.rf (lv_sub hl [0] rfl)
abbrev rm_Row_putNumber : Room := { frames := 0, cells := 0, slots := 0, locals := 0 }
abbrev e_Row_putNumber (dC : Nat → ClassId) (dI : Nat → Nat → Nat) (cI cB cZ : ClassId) (a0 : Nat) (a0_bytes : Nat) (N : Nat) (n0_bytes : Nat) (x : (Nat → Int32) × Int32 × Int32) (u : Unit) : va_W := [(a0, .inr (1, [.ref a0_bytes, .int x.2.1, .int x.2.2])), (a0_bytes, .inl (cB, n0_bytes, .inl x.1))]
abbrev q_Row_putNumber (below : List Frame) (args : Array Value) (s : State) (dC : Nat → ClassId) (dI : Nat → Nat → Nat) (cI cB cZ : ClassId) (A : Nat → Prop) (a0 : Nat) (a0_bytes : Nat) (N : Nat) (n0_bytes : Nat) (x : (Nat → Int32) × Int32 × Int32) : State → Prop := MQ below (va_Qv (fun (_ : Unit) => True) (gz_B (dC, dI) vwCl A (e_Row_putNumber dC dI cI cB cZ a0 a0_bytes N n0_bytes x)) A) args s 0 0 A
def t_Row_putNumber_J1 (p : Program) (l : Launch) (e : Env) (s : State) (m : MethodId) (args : Array Value) (below : List Frame) (meth : Method) (c : Code) (dC : Nat → ClassId) (dI : Nat → Nat → Nat) (cI cB cZ : ClassId) (tS : Nat) (A : Nat → Prop) (a0 : Nat) (a0_bytes : Nat) (N : Nat) (n0_bytes : Nat) (x : (Nat → Int32) × Int32 × Int32) (F : Int32 → Int32 → Int32 → Int32 → (Nat → Int32) → Int32 → Int32 → Option ((Nat → Int32) × Int32 × Int32)) : Prop :=
  ∀ (x1 : Int32) (x2 : Int32) (x3 : Int32) (x4 : Int32) (f0_bytes : Nat → Int32) (v0_count : Int32) (v0_place : Int32), F x1 x2 x3 x4 f0_bytes v0_count v0_place = some x → ∀ (H : Heap) (locs : List Loc) (ls : Array Slot), va_P (dC, dI) vwCl [(a0, .inr (1, [.ref a0_bytes, .int v0_count, .int v0_place])), (a0_bytes, .inl (cB, n0_bytes, .inl f0_bytes))] H → va_D A [(a0, .inr (1, [.ref a0_bytes, .int v0_count, .int v0_place])), (a0_bytes, .inl (cB, n0_bytes, .inl f0_bytes))] → va_S A s.heap H locs → lv_has ls 5 [(0, .ref a0), (1, .int x1), (2, .int x2), (3, .int x3), (4, .int x4)] → W p l e rm_Row_putNumber s m args below meth c H locs 0 0 (q_Row_putNumber below args s dC dI cI cB cZ A a0 a0_bytes N n0_bytes x) (F0 m 55 ls [])
def t_Row_putNumber_L1 (p : Program) (l : Launch) (e : Env) (s : State) (m : MethodId) (args : Array Value) (below : List Frame) (meth : Method) (c : Code) (dC : Nat → ClassId) (dI : Nat → Nat → Nat) (cI cB cZ : ClassId) (tS : Nat) (A : Nat → Prop) (a0 : Nat) (a0_bytes : Nat) (N : Nat) (n0_bytes : Nat) (x : (Nat → Int32) × Int32 × Int32) (F : Int32 → Int32 → Int32 → (Nat → Int32) → Int32 → Int32 → Option ((Nat → Int32) × Int32 × Int32)) : Prop :=
  ∀ (x1 : Int32) (x2 : Int32) (x3 : Int32) (f0_bytes : Nat → Int32) (v0_count : Int32) (v0_place : Int32), F x1 x2 x3 f0_bytes v0_count v0_place = some x → ∀ (H : Heap) (locs : List Loc) (ls : Array Slot), va_P (dC, dI) vwCl [(a0, .inr (1, [.ref a0_bytes, .int v0_count, .int v0_place])), (a0_bytes, .inl (cB, n0_bytes, .inl f0_bytes))] H → va_D A [(a0, .inr (1, [.ref a0_bytes, .int v0_count, .int v0_place])), (a0_bytes, .inl (cB, n0_bytes, .inl f0_bytes))] → va_S A s.heap H locs → lv_has ls 5 [(0, .ref a0), (1, .int x1), (2, .int x2), (3, .int x3)] → W p l e rm_Row_putNumber s m args below meth c H locs 0 0 (q_Row_putNumber below args s dC dI cI cB cZ A a0 a0_bytes N n0_bytes x) (F0 m 2 ls [])
def t_Row_putNumber_0 (p : Program) (l : Launch) (e : Env) (s : State) (m : MethodId) (args : Array Value) (below : List Frame) (meth : Method) (c : Code) (dC : Nat → ClassId) (dI : Nat → Nat → Nat) (cI cB cZ : ClassId) (tS : Nat) (A : Nat → Prop) (a0 : Nat) (a0_bytes : Nat) (N : Nat) (n0_bytes : Nat) (x : (Nat → Int32) × Int32 × Int32) (F : Int32 → Int32 → (Nat → Int32) → Int32 → Int32 → Option ((Nat → Int32) × Int32 × Int32)) : Prop :=
  ∀ (x1 : Int32) (x2 : Int32) (f0_bytes : Nat → Int32) (v0_count : Int32) (v0_place : Int32), F x1 x2 f0_bytes v0_count v0_place = some x → ∀ (H : Heap) (locs : List Loc) (ls : Array Slot), va_P (dC, dI) vwCl [(a0, .inr (1, [.ref a0_bytes, .int v0_count, .int v0_place])), (a0_bytes, .inl (cB, n0_bytes, .inl f0_bytes))] H → va_D A [(a0, .inr (1, [.ref a0_bytes, .int v0_count, .int v0_place])), (a0_bytes, .inl (cB, n0_bytes, .inl f0_bytes))] → va_S A s.heap H locs → lv_has ls 5 [(0, .ref a0), (1, .int x1), (2, .int x2)] → W p l e rm_Row_putNumber s m args below meth c H locs 0 0 (q_Row_putNumber below args s dC dI cI cB cZ A a0 a0_bytes N n0_bytes x) (F0 m 0 ls [])
def g_Row_putNumber_J1 (n0_bytes : Nat) (K_Row_putNumber_L1 : Int32 → Int32 → Int32 → (Nat → Int32) → Int32 → Int32 → Option ((Nat → Int32) × Int32 × Int32)) (x1 : Int32) (x2 : Int32) (x3 : Int32) (x4 : Int32) (f0_bytes : Nat → Int32) (v0_count : Int32) (v0_place : Int32) : Option ((Nat → Int32) × Int32 × Int32) := (if x4 < 0 ∨ n0_bytes ≤ x4.toNatClampNeg then none else (K_Row_putNumber_L1 x1 x2 (x3 + (1 : Int32)) (upd f0_bytes x4.toNatClampNeg (vp_nar .byte (((f0_bytes x4.toNatClampNeg) ||| ((((x1 >>> (x3 &&& 31)) &&& (1 : Int32)) <<< ((v0_place &&& (7 : Int32)) &&& 31)).toInt8.toInt32)).toInt8.toInt32))) v0_count (v0_place + (1 : Int32))))
set_option maxHeartbeats 4000000 in
set_option maxRecDepth 100000 in
theorem w_Row_putNumber_J1 {p : Program} {l : Launch} {e : Env} {s : State} {m : MethodId} {args : Array Value} {below : List Frame} {meth : Method} {c : Code} {dC : Nat → ClassId} {dI : Nat → Nat → Nat} {cI cB cZ : ClassId} {tS : Nat} {A : Nat → Prop} (C0 : gz_C p s m args meth c b_Row_putNumber 5 none R_Row "putNumber" gz_W A (dC, dI) vwCl [(cI, .int), (cB, .byte), (cZ, .boolean)] tS) (a0 : Nat) (a0_bytes : Nat) (N : Nat) (n0_bytes : Nat) (x : (Nat → Int32) × Int32 × Int32) {K_Row_putNumber_L1 : Int32 → Int32 → Int32 → (Nat → Int32) → Int32 → Int32 → Option ((Nat → Int32) × Int32 × Int32)} (hK_Row_putNumber_L1 : t_Row_putNumber_L1 p l e s m args below meth c dC dI cI cB cZ tS A a0 a0_bytes N n0_bytes x K_Row_putNumber_L1) : t_Row_putNumber_J1 p l e s m args below meth c dC dI cI cB cZ tS A a0 a0_bytes N n0_bytes x (g_Row_putNumber_J1 n0_bytes K_Row_putNumber_L1) := by
  obtain ⟨hx, hb, hr, hml, hown, hin0, hts, hlocks, hA, hK, hE⟩ := id C0
  intro x1 x2 x3 x4 f0_bytes v0_count v0_place h H locs ls hP hD hS hl
  rw [g_Row_putNumber_J1] at h
  refine lv_aload_n hx hb d_Row_putNumber_55 rfl (lv_at hl 0 rfl) ?_
  refine va_get (D := (dC, dI)) (ci := 1) (v := .ref a0_bytes) (C := R_Row) (T := F_Row) (N := 3) hx hb hts in_Row hown hK hP 0 rfl rfl 0 (by decide) (hts _ kw_8) (fun _ h9 => h9) rfl d_Row_putNumber_56 ?_
  refine lv_iload hx hb d_Row_putNumber_59 (lv_at hl 4 rfl) ?_
  refine lv_dup2_11 hx hb d_Row_putNumber_61 rfl rfl ?_
  obtain ⟨hi6, h⟩ := gz_n h
  refine va_bald hx hb hK hP 1 1 rfl rfl hi6 d_Row_putNumber_62 ?_
  refine lv_iload_n hx hb d_Row_putNumber_63 rfl (lv_at hl 1 rfl) ?_
  refine lv_iload_n hx hb d_Row_putNumber_64 rfl (lv_at hl 3 rfl) ?_
  refine lv_ishr hx hb d_Row_putNumber_65 ?_
  refine lv_iconst (v := (1 : Int32)) hx hb d_Row_putNumber_66 (by decide) ?_
  refine lv_iand hx hb d_Row_putNumber_67 ?_
  refine lv_aload_n hx hb d_Row_putNumber_68 rfl (lv_at hl 0 rfl) ?_
  refine va_get (D := (dC, dI)) (ci := 1) (v := .int v0_place) (C := R_Row) (T := F_Row) (N := 3) hx hb hts in_Row hown hK hP 0 rfl rfl 2 (by decide) (hts _ kw_10) (fun _ h9 => h9) rfl d_Row_putNumber_69 ?_
  refine lv_bipush (v := (7 : Int32)) hx hb d_Row_putNumber_72 (by decide) ?_
  refine lv_iand hx hb d_Row_putNumber_74 ?_
  refine lv_ishl hx hb d_Row_putNumber_75 ?_
  refine lv_i2b (v := (((x1 >>> (x3 &&& 31)) &&& (1 : Int32)) <<< ((v0_place &&& (7 : Int32)) &&& 31)).toInt8.toInt32) hx hb d_Row_putNumber_76 rfl ?_
  refine lv_ior hx hb d_Row_putNumber_77 ?_
  refine lv_i2b (v := ((f0_bytes x4.toNatClampNeg) ||| ((((x1 >>> (x3 &&& 31)) &&& (1 : Int32)) <<< ((v0_place &&& (7 : Int32)) &&& 31)).toInt8.toInt32)).toInt8.toInt32) hx hb d_Row_putNumber_78 rfl ?_
  refine va_bast hx hb hK hP hD hS 1 1 rfl rfl hi6 d_Row_putNumber_79 (fun H locs hP hD hS => ?_)
  have hP : va_P (dC, dI) vwCl [(a0, .inr (1, [.ref a0_bytes, .int v0_count, .int v0_place])), (a0_bytes, .inl (cB, n0_bytes, .inl (upd f0_bytes x4.toNatClampNeg (vp_nar .byte (((f0_bytes x4.toNatClampNeg) ||| ((((x1 >>> (x3 &&& 31)) &&& (1 : Int32)) <<< ((v0_place &&& (7 : Int32)) &&& 31)).toInt8.toInt32)).toInt8.toInt32)))))] H := hP
  have hD : va_D A [(a0, .inr (1, [.ref a0_bytes, .int v0_count, .int v0_place])), (a0_bytes, .inl (cB, n0_bytes, .inl (upd f0_bytes x4.toNatClampNeg (vp_nar .byte (((f0_bytes x4.toNatClampNeg) ||| ((((x1 >>> (x3 &&& 31)) &&& (1 : Int32)) <<< ((v0_place &&& (7 : Int32)) &&& 31)).toInt8.toInt32)).toInt8.toInt32)))))] := hD
  refine lv_aload_n hx hb d_Row_putNumber_80 rfl (lv_at hl 0 rfl) ?_
  refine lv_dup hx hb d_Row_putNumber_81 rfl ?_
  refine va_get (D := (dC, dI)) (ci := 1) (v := .int v0_place) (C := R_Row) (T := F_Row) (N := 3) hx hb hts in_Row hown hK hP 0 rfl rfl 2 (by decide) (hts _ kw_10) (fun _ h9 => h9) rfl d_Row_putNumber_82 ?_
  refine lv_iconst (v := (1 : Int32)) hx hb d_Row_putNumber_85 (by decide) ?_
  refine lv_iadd hx hb d_Row_putNumber_86 ?_
  refine va_put (D := (dC, dI)) (ci := 1) (v := .int (v0_place + (1 : Int32))) (ty := .int) (C := R_Row) (T := F_Row) (N := 3) hx hb hts in_Row t_Row t_Row_ok n_Row hown hK hP hD hS 0 rfl rfl 2 (by decide) (hts _ kw_10) (fun _ h9 => h9) rfl (by decide +kernel) rfl rfl (Nat.le_of_ble_eq_true rfl) d_Row_putNumber_87 (fun H locs hP hD hS => ?_)
  have hP : va_P (dC, dI) vwCl [(a0, .inr (1, [.ref a0_bytes, .int v0_count, .int (v0_place + (1 : Int32))])), (a0_bytes, .inl (cB, n0_bytes, .inl (upd f0_bytes x4.toNatClampNeg (vp_nar .byte (((f0_bytes x4.toNatClampNeg) ||| ((((x1 >>> (x3 &&& 31)) &&& (1 : Int32)) <<< ((v0_place &&& (7 : Int32)) &&& 31)).toInt8.toInt32)).toInt8.toInt32)))))] H := hP
  have hD : va_D A [(a0, .inr (1, [.ref a0_bytes, .int v0_count, .int (v0_place + (1 : Int32))])), (a0_bytes, .inl (cB, n0_bytes, .inl (upd f0_bytes x4.toNatClampNeg (vp_nar .byte (((f0_bytes x4.toNatClampNeg) ||| ((((x1 >>> (x3 &&& 31)) &&& (1 : Int32)) <<< ((v0_place &&& (7 : Int32)) &&& 31)).toInt8.toInt32)).toInt8.toInt32)))))] := hD
  refine lv_iinc (v := x3 + (1 : Int32)) (lv' := [(3, .int (x3 + (1 : Int32))), (0, .ref a0), (1, .int x1), (2, .int x2), (4, .int x4)]) hx hb d_Row_putNumber_90 hl (k := 3) rfl rfl (by decide) rfl (fun ls hl => ?_)
  refine lv_goto (tgt := 2) hx hb d_Row_putNumber_93 (by decide) ?_
  exact hK_Row_putNumber_L1 x1 x2 (x3 + (1 : Int32)) (upd f0_bytes x4.toNatClampNeg (vp_nar .byte (((f0_bytes x4.toNatClampNeg) ||| ((((x1 >>> (x3 &&& 31)) &&& (1 : Int32)) <<< ((v0_place &&& (7 : Int32)) &&& 31)).toInt8.toInt32)).toInt8.toInt32))) v0_count (v0_place + (1 : Int32)) h _ _ _ (hP.sub [0, 1] rfl) (hD.sub [0, 1] (by decide) rfl) hS (lv_sub hl [1, 2, 3, 0] rfl)
def g_Row_putNumber_L1 (n0_bytes : Nat) : Nat → Int32 → Int32 → Int32 → (Nat → Int32) → Int32 → Int32 → Option ((Nat → Int32) × Int32 × Int32)
  | 0, _, _, _, _, _, _ => none
  | n + 1, x1, x2, x3, f0_bytes, v0_count, v0_place => (if x2 ≤ x3 then some (f0_bytes, v0_count, v0_place) else (if (v0_place >>> ((3 : Int32) &&& 31)) < 0 then some (f0_bytes, v0_count, v0_place) else (if (v0_place >>> ((3 : Int32) &&& 31)) < (9000 : Int32) then (if (v0_place &&& (7 : Int32)) = 0 then (if v0_place >>> ((3 : Int32) &&& 31) < 0 ∨ n0_bytes ≤ (v0_place >>> ((3 : Int32) &&& 31)).toNatClampNeg then none else (g_Row_putNumber_J1 n0_bytes (g_Row_putNumber_L1 n0_bytes n) x1 x2 x3 (v0_place >>> ((3 : Int32) &&& 31)) (upd f0_bytes (v0_place >>> ((3 : Int32) &&& 31)).toNatClampNeg (vp_nar .byte (0 : Int32))) ((v0_place >>> ((3 : Int32) &&& 31)) + (1 : Int32)) v0_place)) else (g_Row_putNumber_J1 n0_bytes (g_Row_putNumber_L1 n0_bytes n) x1 x2 x3 (v0_place >>> ((3 : Int32) &&& 31)) f0_bytes v0_count v0_place)) else some (f0_bytes, v0_count, v0_place))))
set_option maxHeartbeats 4000000 in
set_option maxRecDepth 100000 in
theorem w_Row_putNumber_L1 {p : Program} {l : Launch} {e : Env} {s : State} {m : MethodId} {args : Array Value} {below : List Frame} {meth : Method} {c : Code} {dC : Nat → ClassId} {dI : Nat → Nat → Nat} {cI cB cZ : ClassId} {tS : Nat} {A : Nat → Prop} (C0 : gz_C p s m args meth c b_Row_putNumber 5 none R_Row "putNumber" gz_W A (dC, dI) vwCl [(cI, .int), (cB, .byte), (cZ, .boolean)] tS) (a0 : Nat) (a0_bytes : Nat) (N : Nat) (n0_bytes : Nat) (x : (Nat → Int32) × Int32 × Int32) : ∀ n : Nat, t_Row_putNumber_L1 p l e s m args below meth c dC dI cI cB cZ tS A a0 a0_bytes N n0_bytes x (g_Row_putNumber_L1 n0_bytes n) := by
  obtain ⟨hx, hb, hr, hml, hown, hin0, hts, hlocks, hA, hK, hE⟩ := id C0
  intro n
  induction n with
  | zero =>
    intro x1 x2 x3 f0_bytes v0_count v0_place h
    cases h
  | succ n ih =>
    intro x1 x2 x3 f0_bytes v0_count v0_place h H locs ls hP hD hS hl
    rw [g_Row_putNumber_L1] at h
    refine lv_iload_n hx hb d_Row_putNumber_2 rfl (lv_at hl 3 rfl) ?_
    refine lv_iload_n hx hb d_Row_putNumber_3 rfl (lv_at hl 2 rfl) ?_
    refine lv_icmp_ge (tgt := 96) hx hb d_Row_putNumber_4 (by decide) (fun c1 => ?_) (fun c1 => ?_)
    · have h := gz_t h c1
      obtain rfl := Option.some.inj h
      exact W.vret hx hb hr (fun t ht hW => ⟨⟨(), rfl, trivial, by rw [ht]; exact hP.sub [0, 1] rfl, hD.sub [0, 1] (by decide) rfl⟩, hS.F ht⟩) hS.2.2 d_Row_putNumber_96
    · have h := gz_f h c1
      refine lv_aload_n hx hb d_Row_putNumber_7 rfl (lv_at hl 0 rfl) ?_
      refine va_get (D := (dC, dI)) (ci := 1) (v := .int v0_place) (C := R_Row) (T := F_Row) (N := 3) hx hb hts in_Row hown hK hP 0 rfl rfl 2 (by decide) (hts _ kw_10) (fun _ h9 => h9) rfl d_Row_putNumber_8 ?_
      refine lv_iconst (v := (3 : Int32)) hx hb d_Row_putNumber_11 (by decide) ?_
      refine lv_ishr hx hb d_Row_putNumber_12 ?_
      refine lv_istore (lv' := [(4, .int (v0_place >>> ((3 : Int32) &&& 31))), (0, .ref a0), (1, .int x1), (2, .int x2), (3, .int x3)]) hx hb d_Row_putNumber_13 hl (by decide) rfl (fun ls hl => ?_)
      refine lv_iload hx hb d_Row_putNumber_15 (lv_at hl 0 rfl) ?_
      refine lv_if_lt (tgt := 28) hx hb d_Row_putNumber_17 (by decide) (fun c2 => ?_) (fun c2 => ?_)
      · have h := gz_t h c2
        obtain rfl := Option.some.inj h
        exact W.vret hx hb hr (fun t ht hW => ⟨⟨(), rfl, trivial, by rw [ht]; exact hP.sub [0, 1] rfl, hD.sub [0, 1] (by decide) rfl⟩, hS.F ht⟩) hS.2.2 d_Row_putNumber_28
      · have h := gz_f h c2
        refine lv_iload hx hb d_Row_putNumber_20 (lv_at hl 0 rfl) ?_
        refine lv_sipush (v := (9000 : Int32)) hx hb d_Row_putNumber_22 (by decide) ?_
        refine lv_icmp_lt (tgt := 29) hx hb d_Row_putNumber_25 (by decide) (fun c3 => ?_) (fun c3 => ?_)
        · have h := gz_t h c3
          refine lv_aload_n hx hb d_Row_putNumber_29 rfl (lv_at hl 1 rfl) ?_
          refine va_get (D := (dC, dI)) (ci := 1) (v := .int v0_place) (C := R_Row) (T := F_Row) (N := 3) hx hb hts in_Row hown hK hP 0 rfl rfl 2 (by decide) (hts _ kw_10) (fun _ h9 => h9) rfl d_Row_putNumber_30 ?_
          refine lv_bipush (v := (7 : Int32)) hx hb d_Row_putNumber_33 (by decide) ?_
          refine lv_iand hx hb d_Row_putNumber_35 ?_
          refine lv_if_ne (tgt := 55) hx hb d_Row_putNumber_36 (by decide) (fun c4 => ?_) (fun c4 => ?_)
          · have h := gz_f h c4
            exact (w_Row_putNumber_J1 C0 a0 a0_bytes N n0_bytes x ih) x1 x2 x3 (v0_place >>> ((3 : Int32) &&& 31)) f0_bytes v0_count v0_place h _ _ _ (hP.sub [0, 1] rfl) (hD.sub [0, 1] (by decide) rfl) hS (lv_sub hl [1, 2, 3, 4, 0] rfl)
          · have h := gz_t h c4
            refine lv_aload_n hx hb d_Row_putNumber_39 rfl (lv_at hl 1 rfl) ?_
            refine va_get (D := (dC, dI)) (ci := 1) (v := .ref a0_bytes) (C := R_Row) (T := F_Row) (N := 3) hx hb hts in_Row hown hK hP 0 rfl rfl 0 (by decide) (hts _ kw_8) (fun _ h9 => h9) rfl d_Row_putNumber_40 ?_
            refine lv_iload hx hb d_Row_putNumber_43 (lv_at hl 0 rfl) ?_
            refine lv_iconst (v := (0 : Int32)) hx hb d_Row_putNumber_45 (by decide) ?_
            obtain ⟨hi5, h⟩ := gz_n h
            refine va_bast hx hb hK hP hD hS 1 1 rfl rfl hi5 d_Row_putNumber_46 (fun H locs hP hD hS => ?_)
            have hP : va_P (dC, dI) vwCl [(a0, .inr (1, [.ref a0_bytes, .int v0_count, .int v0_place])), (a0_bytes, .inl (cB, n0_bytes, .inl (upd f0_bytes (v0_place >>> ((3 : Int32) &&& 31)).toNatClampNeg (vp_nar .byte (0 : Int32)))))] H := hP
            have hD : va_D A [(a0, .inr (1, [.ref a0_bytes, .int v0_count, .int v0_place])), (a0_bytes, .inl (cB, n0_bytes, .inl (upd f0_bytes (v0_place >>> ((3 : Int32) &&& 31)).toNatClampNeg (vp_nar .byte (0 : Int32)))))] := hD
            refine lv_aload_n hx hb d_Row_putNumber_47 rfl (lv_at hl 1 rfl) ?_
            refine lv_iload hx hb d_Row_putNumber_48 (lv_at hl 0 rfl) ?_
            refine lv_iconst (v := (1 : Int32)) hx hb d_Row_putNumber_50 (by decide) ?_
            refine lv_iadd hx hb d_Row_putNumber_51 ?_
            refine va_put (D := (dC, dI)) (ci := 1) (v := .int ((v0_place >>> ((3 : Int32) &&& 31)) + (1 : Int32))) (ty := .int) (C := R_Row) (T := F_Row) (N := 3) hx hb hts in_Row t_Row t_Row_ok n_Row hown hK hP hD hS 0 rfl rfl 1 (by decide) (hts _ kw_9) (fun _ h9 => h9) rfl (by decide +kernel) rfl rfl (Nat.le_of_ble_eq_true rfl) d_Row_putNumber_52 (fun H locs hP hD hS => ?_)
            have hP : va_P (dC, dI) vwCl [(a0, .inr (1, [.ref a0_bytes, .int ((v0_place >>> ((3 : Int32) &&& 31)) + (1 : Int32)), .int v0_place])), (a0_bytes, .inl (cB, n0_bytes, .inl (upd f0_bytes (v0_place >>> ((3 : Int32) &&& 31)).toNatClampNeg (vp_nar .byte (0 : Int32)))))] H := hP
            have hD : va_D A [(a0, .inr (1, [.ref a0_bytes, .int ((v0_place >>> ((3 : Int32) &&& 31)) + (1 : Int32)), .int v0_place])), (a0_bytes, .inl (cB, n0_bytes, .inl (upd f0_bytes (v0_place >>> ((3 : Int32) &&& 31)).toNatClampNeg (vp_nar .byte (0 : Int32)))))] := hD
            exact (w_Row_putNumber_J1 C0 a0 a0_bytes N n0_bytes x ih) x1 x2 x3 (v0_place >>> ((3 : Int32) &&& 31)) (upd f0_bytes (v0_place >>> ((3 : Int32) &&& 31)).toNatClampNeg (vp_nar .byte (0 : Int32))) ((v0_place >>> ((3 : Int32) &&& 31)) + (1 : Int32)) v0_place h _ _ _ (hP.sub [0, 1] rfl) (hD.sub [0, 1] (by decide) rfl) hS (lv_sub hl [1, 2, 3, 4, 0] rfl)
        · have h := gz_f h c3
          obtain rfl := Option.some.inj h
          exact W.vret hx hb hr (fun t ht hW => ⟨⟨(), rfl, trivial, by rw [ht]; exact hP.sub [0, 1] rfl, hD.sub [0, 1] (by decide) rfl⟩, hS.F ht⟩) hS.2.2 d_Row_putNumber_28
def g_Row_putNumber_0 (N : Nat) (n0_bytes : Nat) (x1 : Int32) (x2 : Int32) (f0_bytes : Nat → Int32) (v0_count : Int32) (v0_place : Int32) : Option ((Nat → Int32) × Int32 × Int32) := (g_Row_putNumber_L1 n0_bytes N x1 x2 (0 : Int32) f0_bytes v0_count v0_place)
set_option maxHeartbeats 4000000 in
set_option maxRecDepth 100000 in
theorem w_Row_putNumber_0 {p : Program} {l : Launch} {e : Env} {s : State} {m : MethodId} {args : Array Value} {below : List Frame} {meth : Method} {c : Code} {dC : Nat → ClassId} {dI : Nat → Nat → Nat} {cI cB cZ : ClassId} {tS : Nat} {A : Nat → Prop} (C0 : gz_C p s m args meth c b_Row_putNumber 5 none R_Row "putNumber" gz_W A (dC, dI) vwCl [(cI, .int), (cB, .byte), (cZ, .boolean)] tS) (a0 : Nat) (a0_bytes : Nat) (N : Nat) (n0_bytes : Nat) (x : (Nat → Int32) × Int32 × Int32) : t_Row_putNumber_0 p l e s m args below meth c dC dI cI cB cZ tS A a0 a0_bytes N n0_bytes x (g_Row_putNumber_0 N n0_bytes) := by
  obtain ⟨hx, hb, hr, hml, hown, hin0, hts, hlocks, hA, hK, hE⟩ := id C0
  intro x1 x2 f0_bytes v0_count v0_place h H locs ls hP hD hS hl
  rw [g_Row_putNumber_0] at h
  refine lv_iconst (v := (0 : Int32)) hx hb d_Row_putNumber_0 (by decide) ?_
  refine lv_istore_n (lv' := [(3, .int (0 : Int32)), (0, .ref a0), (1, .int x1), (2, .int x2)]) hx hb d_Row_putNumber_1 rfl hl (by decide) rfl (fun ls hl => ?_)
  exact (w_Row_putNumber_L1 C0 a0 a0_bytes N n0_bytes x N) x1 x2 (0 : Int32) f0_bytes v0_count v0_place h _ _ _ (hP.sub [0, 1] rfl) (hD.sub [0, 1] (by decide) rfl) hS (lv_sub hl [1, 2, 3, 0] rfl)
set_option maxHeartbeats 4000000 in
set_option maxRecDepth 100000 in
theorem c_Row_putNumber (l : Launch) (dC : Nat → ClassId) (dI : Nat → Nat → Nat) (cI cB cZ : ClassId) (tS : Nat) (a0 : Nat) (a0_bytes : Nat) (sz : Nat) (N : Nat) (n0_bytes : Nat) (x1 : Int32) (x2 : Int32) (f0_bytes : Nat → Int32) (v0_count : Int32) (v0_place : Int32) (x : (Nat → Int32) × Int32 × Int32) (hf : (g_Row_putNumber_0 N n0_bytes x1 x2 f0_bytes v0_count v0_place) = some x) : Met l y_Row_putNumber w_Row_putNumberS rm_Row_putNumber (gz_Pc [.ref a0, .int x1, .int x2] (dC, dI) vwCl [(cI, .int), (cB, .byte), (cZ, .boolean)] tS [(a0, .inr (1, [.ref a0_bytes, .int v0_count, .int v0_place])), (a0_bytes, .inl (cB, n0_bytes, .inl f0_bytes))] sz) (va_Qv (fun (_ : Unit) => True) (gz_B (dC, dI) vwCl (va_A [(a0, .inr (1, [.ref a0_bytes, .int v0_count, .int v0_place])), (a0_bytes, .inl (cB, n0_bytes, .inl f0_bytes))] sz) (e_Row_putNumber dC dI cI cB cZ a0 a0_bytes N n0_bytes x)) (va_A [(a0, .inr (1, [.ref a0_bytes, .int v0_count, .int v0_place])), (a0_bytes, .inl (cB, n0_bytes, .inl f0_bytes))] sz)) 0 0 (va_A [(a0, .inr (1, [.ref a0_bytes, .int v0_count, .int v0_place])), (a0_bytes, .inl (cB, n0_bytes, .inl f0_bytes))] sz) := by
  refine Met.ofW (cc := b_Row_putNumber) (maxL := 5) (ret := none) (by decide) rfl ?_
  intro p e s m args below meth c s₁ B hml hv
  obtain ⟨rfl, hsz, hP, hK, hD0, hE⟩ := hv
  subst hsz
  have hl := lv_entry ([.ref a0, .int x1, .int x2]) (n := 5) (Nat.le_of_ble_eq_true rfl)
  rw [lg_entry_eq]
  generalize (lg_sl ([.ref a0, .int x1, .int x2]) ++ List.replicate (5 - (lg_sl ([.ref a0, .int x1, .int x2])).length) Slot.unset).toArray = ls at hl ⊢
  have C0 : gz_C p s m _ meth c b_Row_putNumber 5 none R_Row "putNumber" gz_W _ (dC, dI) vwCl [(cI, .int), (cB, .byte), (cZ, .boolean)] tS := ⟨B.exec, B.bytes, B.returns, hml, findClass_of_methodNamed B.named, (name_of_methodNamed B.named B.method).1, fun w h => atoms_spec (ws := w_Row_putNumberS) B.pre w (List.mem_cons_of_mem _ h), B.notSynchronized, fun q h => Or.inr h, hK, hE⟩
  exact w_Row_putNumber_0 C0 a0 a0_bytes N n0_bytes x x1 x2 f0_bytes v0_count v0_place hf _ _ _ hP (hD0.self (sz := s.heap.size)) va_S.rf (lv_sub hl [0, 1, 2] rfl)
abbrev rm_Matcher_sort : Room := { frames := 1, cells := 0, slots := 0, locals := 23 }
abbrev e_Matcher_sort (dC : Nat → ClassId) (dI : Nat → Nat → Nat) (cI cB cZ : ClassId) (a0 : Nat) (a1 : Nat) (a4 : Nat) (a5 : Nat) (a0_sorted : Nat) (a0_nearest : Nat) (a0_starts : Nat) (a1_bytes : Nat) (N : Nat) (v0_length : Int32) (v0_distance : Int32) (n0_starts : Nat) (v1_count : Int32) (v1_place : Int32) (n1_bytes : Nat) (f1_bytes : Nat → Int32) (n4 : Nat) (f4 : Nat → Int32) (n5 : Nat) (x : (Nat → Int32) × (Nat → Int32)) (u : Unit) : va_W := [(a0, .inr (4, [.ref a0_sorted, .ref a0_nearest, .ref a0_starts, .int v0_length, .int v0_distance])), (a0_starts, .inl (cI, n0_starts, .inl x.1)), (a1, .inr (1, [.ref a1_bytes, .int v1_count, .int v1_place])), (a1_bytes, .inl (cB, n1_bytes, .inl f1_bytes)), (a4, .inl (cI, n4, .inl f4)), (a5, .inl (cI, n5, .inl x.2))]
abbrev q_Matcher_sort (below : List Frame) (args : Array Value) (s : State) (dC : Nat → ClassId) (dI : Nat → Nat → Nat) (cI cB cZ : ClassId) (A : Nat → Prop) (a0 : Nat) (a1 : Nat) (a4 : Nat) (a5 : Nat) (a0_sorted : Nat) (a0_nearest : Nat) (a0_starts : Nat) (a1_bytes : Nat) (N : Nat) (v0_length : Int32) (v0_distance : Int32) (n0_starts : Nat) (v1_count : Int32) (v1_place : Int32) (n1_bytes : Nat) (f1_bytes : Nat → Int32) (n4 : Nat) (f4 : Nat → Int32) (n5 : Nat) (x : (Nat → Int32) × (Nat → Int32)) : State → Prop := MQ below (va_Qv (fun (_ : Unit) => True) (gz_B (dC, dI) vwCl A (e_Matcher_sort dC dI cI cB cZ a0 a1 a4 a5 a0_sorted a0_nearest a0_starts a1_bytes N v0_length v0_distance n0_starts v1_count v1_place n1_bytes f1_bytes n4 f4 n5 x)) A) args s 0 0 A
def t_Matcher_sort_L3 (p : Program) (l : Launch) (e : Env) (s : State) (m : MethodId) (args : Array Value) (below : List Frame) (meth : Method) (c : Code) (dC : Nat → ClassId) (dI : Nat → Nat → Nat) (cI cB cZ : ClassId) (tS : Nat) (A : Nat → Prop) (a0 : Nat) (a1 : Nat) (a4 : Nat) (a5 : Nat) (a0_sorted : Nat) (a0_nearest : Nat) (a0_starts : Nat) (a1_bytes : Nat) (N : Nat) (v0_length : Int32) (v0_distance : Int32) (n0_starts : Nat) (v1_count : Int32) (v1_place : Int32) (n1_bytes : Nat) (f1_bytes : Nat → Int32) (n4 : Nat) (f4 : Nat → Int32) (n5 : Nat) (x : (Nat → Int32) × (Nat → Int32)) (F : Int32 → Int32 → Int32 → (Nat → Int32) → (Nat → Int32) → Option ((Nat → Int32) × (Nat → Int32))) : Prop :=
  ∀ (x2 : Int32) (x3 : Int32) (x6 : Int32) (f0_starts : Nat → Int32) (f5 : Nat → Int32), F x2 x3 x6 f0_starts f5 = some x → ∀ (H : Heap) (locs : List Loc) (ls : Array Slot), va_P (dC, dI) vwCl [(a0, .inr (4, [.ref a0_sorted, .ref a0_nearest, .ref a0_starts, .int v0_length, .int v0_distance])), (a0_starts, .inl (cI, n0_starts, .inl f0_starts)), (a1, .inr (1, [.ref a1_bytes, .int v1_count, .int v1_place])), (a1_bytes, .inl (cB, n1_bytes, .inl f1_bytes)), (a4, .inl (cI, n4, .inl f4)), (a5, .inl (cI, n5, .inl f5))] H → va_D A [(a0, .inr (4, [.ref a0_sorted, .ref a0_nearest, .ref a0_starts, .int v0_length, .int v0_distance])), (a0_starts, .inl (cI, n0_starts, .inl f0_starts)), (a1, .inr (1, [.ref a1_bytes, .int v1_count, .int v1_place])), (a1_bytes, .inl (cB, n1_bytes, .inl f1_bytes)), (a4, .inl (cI, n4, .inl f4)), (a5, .inl (cI, n5, .inl f5))] → va_S A s.heap H locs → lv_has ls 8 [(0, .ref a0), (1, .ref a1), (2, .int x2), (3, .int x3), (4, .ref a4), (5, .ref a5), (6, .int x6)] → W p l e rm_Matcher_sort s m args below meth c H locs 0 0 (q_Matcher_sort below args s dC dI cI cB cZ A a0 a1 a4 a5 a0_sorted a0_nearest a0_starts a1_bytes N v0_length v0_distance n0_starts v1_count v1_place n1_bytes f1_bytes n4 f4 n5 x) (F0 m 86 ls [])
def t_Matcher_sort_L2 (p : Program) (l : Launch) (e : Env) (s : State) (m : MethodId) (args : Array Value) (below : List Frame) (meth : Method) (c : Code) (dC : Nat → ClassId) (dI : Nat → Nat → Nat) (cI cB cZ : ClassId) (tS : Nat) (A : Nat → Prop) (a0 : Nat) (a1 : Nat) (a4 : Nat) (a5 : Nat) (a0_sorted : Nat) (a0_nearest : Nat) (a0_starts : Nat) (a1_bytes : Nat) (N : Nat) (v0_length : Int32) (v0_distance : Int32) (n0_starts : Nat) (v1_count : Int32) (v1_place : Int32) (n1_bytes : Nat) (f1_bytes : Nat → Int32) (n4 : Nat) (f4 : Nat → Int32) (n5 : Nat) (x : (Nat → Int32) × (Nat → Int32)) (F : Int32 → Int32 → Int32 → (Nat → Int32) → (Nat → Int32) → Option ((Nat → Int32) × (Nat → Int32))) : Prop :=
  ∀ (x2 : Int32) (x3 : Int32) (x6 : Int32) (f0_starts : Nat → Int32) (f5 : Nat → Int32), F x2 x3 x6 f0_starts f5 = some x → ∀ (H : Heap) (locs : List Loc) (ls : Array Slot), va_P (dC, dI) vwCl [(a0, .inr (4, [.ref a0_sorted, .ref a0_nearest, .ref a0_starts, .int v0_length, .int v0_distance])), (a0_starts, .inl (cI, n0_starts, .inl f0_starts)), (a1, .inr (1, [.ref a1_bytes, .int v1_count, .int v1_place])), (a1_bytes, .inl (cB, n1_bytes, .inl f1_bytes)), (a4, .inl (cI, n4, .inl f4)), (a5, .inl (cI, n5, .inl f5))] H → va_D A [(a0, .inr (4, [.ref a0_sorted, .ref a0_nearest, .ref a0_starts, .int v0_length, .int v0_distance])), (a0_starts, .inl (cI, n0_starts, .inl f0_starts)), (a1, .inr (1, [.ref a1_bytes, .int v1_count, .int v1_place])), (a1_bytes, .inl (cB, n1_bytes, .inl f1_bytes)), (a4, .inl (cI, n4, .inl f4)), (a5, .inl (cI, n5, .inl f5))] → va_S A s.heap H locs → lv_has ls 8 [(0, .ref a0), (1, .ref a1), (2, .int x2), (3, .int x3), (4, .ref a4), (5, .ref a5), (6, .int x6)] → W p l e rm_Matcher_sort s m args below meth c H locs 0 0 (q_Matcher_sort below args s dC dI cI cB cZ A a0 a1 a4 a5 a0_sorted a0_nearest a0_starts a1_bytes N v0_length v0_distance n0_starts v1_count v1_place n1_bytes f1_bytes n4 f4 n5 x) (F0 m 50 ls [])
def t_Matcher_sort_L1 (p : Program) (l : Launch) (e : Env) (s : State) (m : MethodId) (args : Array Value) (below : List Frame) (meth : Method) (c : Code) (dC : Nat → ClassId) (dI : Nat → Nat → Nat) (cI cB cZ : ClassId) (tS : Nat) (A : Nat → Prop) (a0 : Nat) (a1 : Nat) (a4 : Nat) (a5 : Nat) (a0_sorted : Nat) (a0_nearest : Nat) (a0_starts : Nat) (a1_bytes : Nat) (N : Nat) (v0_length : Int32) (v0_distance : Int32) (n0_starts : Nat) (v1_count : Int32) (v1_place : Int32) (n1_bytes : Nat) (f1_bytes : Nat → Int32) (n4 : Nat) (f4 : Nat → Int32) (n5 : Nat) (x : (Nat → Int32) × (Nat → Int32)) (F : Int32 → Int32 → Int32 → (Nat → Int32) → (Nat → Int32) → Option ((Nat → Int32) × (Nat → Int32))) : Prop :=
  ∀ (x2 : Int32) (x3 : Int32) (x6 : Int32) (f0_starts : Nat → Int32) (f5 : Nat → Int32), F x2 x3 x6 f0_starts f5 = some x → ∀ (H : Heap) (locs : List Loc) (ls : Array Slot), va_P (dC, dI) vwCl [(a0, .inr (4, [.ref a0_sorted, .ref a0_nearest, .ref a0_starts, .int v0_length, .int v0_distance])), (a0_starts, .inl (cI, n0_starts, .inl f0_starts)), (a1, .inr (1, [.ref a1_bytes, .int v1_count, .int v1_place])), (a1_bytes, .inl (cB, n1_bytes, .inl f1_bytes)), (a4, .inl (cI, n4, .inl f4)), (a5, .inl (cI, n5, .inl f5))] H → va_D A [(a0, .inr (4, [.ref a0_sorted, .ref a0_nearest, .ref a0_starts, .int v0_length, .int v0_distance])), (a0_starts, .inl (cI, n0_starts, .inl f0_starts)), (a1, .inr (1, [.ref a1_bytes, .int v1_count, .int v1_place])), (a1_bytes, .inl (cB, n1_bytes, .inl f1_bytes)), (a4, .inl (cI, n4, .inl f4)), (a5, .inl (cI, n5, .inl f5))] → va_S A s.heap H locs → lv_has ls 8 [(0, .ref a0), (1, .ref a1), (2, .int x2), (3, .int x3), (4, .ref a4), (5, .ref a5), (6, .int x6)] → W p l e rm_Matcher_sort s m args below meth c H locs 0 0 (q_Matcher_sort below args s dC dI cI cB cZ A a0 a1 a4 a5 a0_sorted a0_nearest a0_starts a1_bytes N v0_length v0_distance n0_starts v1_count v1_place n1_bytes f1_bytes n4 f4 n5 x) (F0 m 11 ls [])
def t_Matcher_sort_0 (p : Program) (l : Launch) (e : Env) (s : State) (m : MethodId) (args : Array Value) (below : List Frame) (meth : Method) (c : Code) (dC : Nat → ClassId) (dI : Nat → Nat → Nat) (cI cB cZ : ClassId) (tS : Nat) (A : Nat → Prop) (a0 : Nat) (a1 : Nat) (a4 : Nat) (a5 : Nat) (a0_sorted : Nat) (a0_nearest : Nat) (a0_starts : Nat) (a1_bytes : Nat) (N : Nat) (v0_length : Int32) (v0_distance : Int32) (n0_starts : Nat) (v1_count : Int32) (v1_place : Int32) (n1_bytes : Nat) (f1_bytes : Nat → Int32) (n4 : Nat) (f4 : Nat → Int32) (n5 : Nat) (x : (Nat → Int32) × (Nat → Int32)) (F : Int32 → Int32 → (Nat → Int32) → (Nat → Int32) → Option ((Nat → Int32) × (Nat → Int32))) : Prop :=
  ∀ (x2 : Int32) (x3 : Int32) (f0_starts : Nat → Int32) (f5 : Nat → Int32), F x2 x3 f0_starts f5 = some x → ∀ (H : Heap) (locs : List Loc) (ls : Array Slot), va_P (dC, dI) vwCl [(a0, .inr (4, [.ref a0_sorted, .ref a0_nearest, .ref a0_starts, .int v0_length, .int v0_distance])), (a0_starts, .inl (cI, n0_starts, .inl f0_starts)), (a1, .inr (1, [.ref a1_bytes, .int v1_count, .int v1_place])), (a1_bytes, .inl (cB, n1_bytes, .inl f1_bytes)), (a4, .inl (cI, n4, .inl f4)), (a5, .inl (cI, n5, .inl f5))] H → va_D A [(a0, .inr (4, [.ref a0_sorted, .ref a0_nearest, .ref a0_starts, .int v0_length, .int v0_distance])), (a0_starts, .inl (cI, n0_starts, .inl f0_starts)), (a1, .inr (1, [.ref a1_bytes, .int v1_count, .int v1_place])), (a1_bytes, .inl (cB, n1_bytes, .inl f1_bytes)), (a4, .inl (cI, n4, .inl f4)), (a5, .inl (cI, n5, .inl f5))] → va_S A s.heap H locs → lv_has ls 8 [(0, .ref a0), (1, .ref a1), (2, .int x2), (3, .int x3), (4, .ref a4), (5, .ref a5)] → W p l e rm_Matcher_sort s m args below meth c H locs 0 0 (q_Matcher_sort below args s dC dI cI cB cZ A a0 a1 a4 a5 a0_sorted a0_nearest a0_starts a1_bytes N v0_length v0_distance n0_starts v1_count v1_place n1_bytes f1_bytes n4 f4 n5 x) (F0 m 0 ls [])
def g_Matcher_sort_L3 (n0_starts : Nat) (n1_bytes : Nat) (f1_bytes : Nat → Int32) (n4 : Nat) (f4 : Nat → Int32) (n5 : Nat) : Nat → Int32 → Int32 → Int32 → (Nat → Int32) → (Nat → Int32) → Option ((Nat → Int32) × (Nat → Int32))
  | 0, _, _, _, _, _ => none
  | n + 1, x2, x3, x6, f0_starts, f5 => (if x2 ≤ x6 then some (f0_starts, f5) else (if x6 < 0 ∨ n4 ≤ x6.toNatClampNeg then none else (if (f4 x6.toNatClampNeg) + x3 < 0 ∨ n1_bytes ≤ ((f4 x6.toNatClampNeg) + x3).toNatClampNeg then none else (if (f1_bytes ((f4 x6.toNatClampNeg) + x3).toNatClampNeg) &&& (255 : Int32) < 0 ∨ n0_starts ≤ ((f1_bytes ((f4 x6.toNatClampNeg) + x3).toNatClampNeg) &&& (255 : Int32)).toNatClampNeg then none else (if f0_starts ((f1_bytes ((f4 x6.toNatClampNeg) + x3).toNatClampNeg) &&& (255 : Int32)).toNatClampNeg < 0 ∨ n5 ≤ (f0_starts ((f1_bytes ((f4 x6.toNatClampNeg) + x3).toNatClampNeg) &&& (255 : Int32)).toNatClampNeg).toNatClampNeg then none else (g_Matcher_sort_L3 n0_starts n1_bytes f1_bytes n4 f4 n5 n x2 x3 (x6 + (1 : Int32)) (upd f0_starts ((f1_bytes ((f4 x6.toNatClampNeg) + x3).toNatClampNeg) &&& (255 : Int32)).toNatClampNeg ((f0_starts ((f1_bytes ((f4 x6.toNatClampNeg) + x3).toNatClampNeg) &&& (255 : Int32)).toNatClampNeg) + (1 : Int32))) (upd f5 (f0_starts ((f1_bytes ((f4 x6.toNatClampNeg) + x3).toNatClampNeg) &&& (255 : Int32)).toNatClampNeg).toNatClampNeg (f4 x6.toNatClampNeg))))))))
set_option maxHeartbeats 4000000 in
set_option maxRecDepth 100000 in
theorem w_Matcher_sort_L3 {p : Program} {l : Launch} {e : Env} {s : State} {m : MethodId} {args : Array Value} {below : List Frame} {meth : Method} {c : Code} {dC : Nat → ClassId} {dI : Nat → Nat → Nat} {cI cB cZ : ClassId} {tS : Nat} {A : Nat → Prop} (C0 : gz_C p s m args meth c b_Matcher_sort 8 none R_Matcher "sort" gz_W A (dC, dI) vwCl [(cI, .int), (cB, .byte), (cZ, .boolean)] tS) (a0 : Nat) (a1 : Nat) (a4 : Nat) (a5 : Nat) (a0_sorted : Nat) (a0_nearest : Nat) (a0_starts : Nat) (a1_bytes : Nat) (N : Nat) (v0_length : Int32) (v0_distance : Int32) (n0_starts : Nat) (v1_count : Int32) (v1_place : Int32) (n1_bytes : Nat) (f1_bytes : Nat → Int32) (n4 : Nat) (f4 : Nat → Int32) (n5 : Nat) (x : (Nat → Int32) × (Nat → Int32)) : ∀ n : Nat, t_Matcher_sort_L3 p l e s m args below meth c dC dI cI cB cZ tS A a0 a1 a4 a5 a0_sorted a0_nearest a0_starts a1_bytes N v0_length v0_distance n0_starts v1_count v1_place n1_bytes f1_bytes n4 f4 n5 x (g_Matcher_sort_L3 n0_starts n1_bytes f1_bytes n4 f4 n5 n) := by
  obtain ⟨hx, hb, hr, hml, hown, hin0, hts, hlocks, hA, hK, hE⟩ := id C0
  intro n
  induction n with
  | zero =>
    intro x2 x3 x6 f0_starts f5 h
    cases h
  | succ n ih =>
    intro x2 x3 x6 f0_starts f5 h H locs ls hP hD hS hl
    rw [g_Matcher_sort_L3] at h
    refine lv_iload hx hb d_Matcher_sort_86 (lv_at hl 6 rfl) ?_
    refine lv_iload_n hx hb d_Matcher_sort_88 rfl (lv_at hl 2 rfl) ?_
    refine lv_icmp_ge (tgt := 142) hx hb d_Matcher_sort_89 (by decide) (fun c8 => ?_) (fun c8 => ?_)
    · have h := gz_t h c8
      obtain rfl := Option.some.inj h
      exact W.vret hx hb hr (fun t ht hW => ⟨⟨(), rfl, trivial, by rw [ht]; exact hP.sub [0, 1, 2, 3, 4, 5] rfl, hD.sub [0, 1, 2, 3, 4, 5] (by decide) rfl⟩, hS.F ht⟩) hS.2.2 d_Matcher_sort_142
    · have h := gz_f h c8
      refine lv_aload_n hx hb d_Matcher_sort_92 rfl (lv_at hl 1 rfl) ?_
      refine va_get (D := (dC, dI)) (ci := 1) (v := .ref a1_bytes) (C := R_Row) (T := F_Row) (N := 3) hx hb hts in_Row hown hK hP 2 rfl rfl 0 (by decide) (hts _ kw_184) (fun _ h9 => h9) rfl d_Matcher_sort_93 ?_
      refine lv_aload hx hb d_Matcher_sort_96 (lv_at hl 4 rfl) ?_
      refine lv_iload hx hb d_Matcher_sort_98 (lv_at hl 6 rfl) ?_
      obtain ⟨hi9, h⟩ := gz_n h
      refine va_iald hx hb hK hP 4 0 rfl rfl hi9 d_Matcher_sort_100 ?_
      refine lv_iload_n hx hb d_Matcher_sort_101 rfl (lv_at hl 3 rfl) ?_
      refine lv_iadd hx hb d_Matcher_sort_102 ?_
      obtain ⟨hi10, h⟩ := gz_n h
      refine va_bald hx hb hK hP 3 1 rfl rfl hi10 d_Matcher_sort_103 ?_
      refine lv_sipush (v := (255 : Int32)) hx hb d_Matcher_sort_104 (by decide) ?_
      refine lv_iand hx hb d_Matcher_sort_107 ?_
      refine lv_istore (lv' := [(7, .int ((f1_bytes ((f4 x6.toNatClampNeg) + x3).toNatClampNeg) &&& (255 : Int32))), (0, .ref a0), (1, .ref a1), (2, .int x2), (3, .int x3), (4, .ref a4), (5, .ref a5), (6, .int x6)]) hx hb d_Matcher_sort_108 hl (by decide) rfl (fun ls hl => ?_)
      refine lv_aload hx hb d_Matcher_sort_110 (lv_at hl 6 rfl) ?_
      refine lv_aload_n hx hb d_Matcher_sort_112 rfl (lv_at hl 1 rfl) ?_
      refine va_get (D := (dC, dI)) (ci := 4) (v := .ref a0_starts) (C := R_Matcher) (T := F_Matcher) (N := 5) hx hb hts in_Matcher hown hK hP 0 rfl rfl 2 (by decide) (hts _ kw_26) (fun _ h9 => h9) rfl d_Matcher_sort_113 ?_
      refine lv_iload hx hb d_Matcher_sort_116 (lv_at hl 0 rfl) ?_
      obtain ⟨hi11, h⟩ := gz_n h
      refine va_iald hx hb hK hP 1 0 rfl rfl hi11 d_Matcher_sort_118 ?_
      refine lv_aload hx hb d_Matcher_sort_119 (lv_at hl 5 rfl) ?_
      refine lv_iload hx hb d_Matcher_sort_121 (lv_at hl 7 rfl) ?_
      refine va_iald hx hb hK hP 4 0 rfl rfl hi9 d_Matcher_sort_123 ?_
      obtain ⟨hi12, h⟩ := gz_n h
      refine va_iast hx hb hK hP hD hS 5 0 rfl rfl hi12 d_Matcher_sort_124 (fun H locs hP hD hS => ?_)
      have hP : va_P (dC, dI) vwCl [(a0, .inr (4, [.ref a0_sorted, .ref a0_nearest, .ref a0_starts, .int v0_length, .int v0_distance])), (a0_starts, .inl (cI, n0_starts, .inl f0_starts)), (a1, .inr (1, [.ref a1_bytes, .int v1_count, .int v1_place])), (a1_bytes, .inl (cB, n1_bytes, .inl f1_bytes)), (a4, .inl (cI, n4, .inl f4)), (a5, .inl (cI, n5, .inl (upd f5 (f0_starts ((f1_bytes ((f4 x6.toNatClampNeg) + x3).toNatClampNeg) &&& (255 : Int32)).toNatClampNeg).toNatClampNeg (f4 x6.toNatClampNeg))))] H := hP
      have hD : va_D A [(a0, .inr (4, [.ref a0_sorted, .ref a0_nearest, .ref a0_starts, .int v0_length, .int v0_distance])), (a0_starts, .inl (cI, n0_starts, .inl f0_starts)), (a1, .inr (1, [.ref a1_bytes, .int v1_count, .int v1_place])), (a1_bytes, .inl (cB, n1_bytes, .inl f1_bytes)), (a4, .inl (cI, n4, .inl f4)), (a5, .inl (cI, n5, .inl (upd f5 (f0_starts ((f1_bytes ((f4 x6.toNatClampNeg) + x3).toNatClampNeg) &&& (255 : Int32)).toNatClampNeg).toNatClampNeg (f4 x6.toNatClampNeg))))] := hD
      refine lv_aload_n hx hb d_Matcher_sort_125 rfl (lv_at hl 1 rfl) ?_
      refine va_get (D := (dC, dI)) (ci := 4) (v := .ref a0_starts) (C := R_Matcher) (T := F_Matcher) (N := 5) hx hb hts in_Matcher hown hK hP 0 rfl rfl 2 (by decide) (hts _ kw_26) (fun _ h9 => h9) rfl d_Matcher_sort_126 ?_
      refine lv_iload hx hb d_Matcher_sort_129 (lv_at hl 0 rfl) ?_
      refine lv_dup2_11 hx hb d_Matcher_sort_131 rfl rfl ?_
      refine va_iald hx hb hK hP 1 0 rfl rfl hi11 d_Matcher_sort_132 ?_
      refine lv_iconst (v := (1 : Int32)) hx hb d_Matcher_sort_133 (by decide) ?_
      refine lv_iadd hx hb d_Matcher_sort_134 ?_
      refine va_iast hx hb hK hP hD hS 1 0 rfl rfl hi11 d_Matcher_sort_135 (fun H locs hP hD hS => ?_)
      have hP : va_P (dC, dI) vwCl [(a0, .inr (4, [.ref a0_sorted, .ref a0_nearest, .ref a0_starts, .int v0_length, .int v0_distance])), (a0_starts, .inl (cI, n0_starts, .inl (upd f0_starts ((f1_bytes ((f4 x6.toNatClampNeg) + x3).toNatClampNeg) &&& (255 : Int32)).toNatClampNeg ((f0_starts ((f1_bytes ((f4 x6.toNatClampNeg) + x3).toNatClampNeg) &&& (255 : Int32)).toNatClampNeg) + (1 : Int32))))), (a1, .inr (1, [.ref a1_bytes, .int v1_count, .int v1_place])), (a1_bytes, .inl (cB, n1_bytes, .inl f1_bytes)), (a4, .inl (cI, n4, .inl f4)), (a5, .inl (cI, n5, .inl (upd f5 (f0_starts ((f1_bytes ((f4 x6.toNatClampNeg) + x3).toNatClampNeg) &&& (255 : Int32)).toNatClampNeg).toNatClampNeg (f4 x6.toNatClampNeg))))] H := hP
      have hD : va_D A [(a0, .inr (4, [.ref a0_sorted, .ref a0_nearest, .ref a0_starts, .int v0_length, .int v0_distance])), (a0_starts, .inl (cI, n0_starts, .inl (upd f0_starts ((f1_bytes ((f4 x6.toNatClampNeg) + x3).toNatClampNeg) &&& (255 : Int32)).toNatClampNeg ((f0_starts ((f1_bytes ((f4 x6.toNatClampNeg) + x3).toNatClampNeg) &&& (255 : Int32)).toNatClampNeg) + (1 : Int32))))), (a1, .inr (1, [.ref a1_bytes, .int v1_count, .int v1_place])), (a1_bytes, .inl (cB, n1_bytes, .inl f1_bytes)), (a4, .inl (cI, n4, .inl f4)), (a5, .inl (cI, n5, .inl (upd f5 (f0_starts ((f1_bytes ((f4 x6.toNatClampNeg) + x3).toNatClampNeg) &&& (255 : Int32)).toNatClampNeg).toNatClampNeg (f4 x6.toNatClampNeg))))] := hD
      refine lv_iinc (v := x6 + (1 : Int32)) (lv' := [(6, .int (x6 + (1 : Int32))), (7, .int ((f1_bytes ((f4 x6.toNatClampNeg) + x3).toNatClampNeg) &&& (255 : Int32))), (0, .ref a0), (1, .ref a1), (2, .int x2), (3, .int x3), (4, .ref a4), (5, .ref a5)]) hx hb d_Matcher_sort_136 hl (k := 7) rfl rfl (by decide) rfl (fun ls hl => ?_)
      refine lv_goto (tgt := 86) hx hb d_Matcher_sort_139 (by decide) ?_
      exact ih x2 x3 (x6 + (1 : Int32)) (upd f0_starts ((f1_bytes ((f4 x6.toNatClampNeg) + x3).toNatClampNeg) &&& (255 : Int32)).toNatClampNeg ((f0_starts ((f1_bytes ((f4 x6.toNatClampNeg) + x3).toNatClampNeg) &&& (255 : Int32)).toNatClampNeg) + (1 : Int32))) (upd f5 (f0_starts ((f1_bytes ((f4 x6.toNatClampNeg) + x3).toNatClampNeg) &&& (255 : Int32)).toNatClampNeg).toNatClampNeg (f4 x6.toNatClampNeg)) h _ _ _ (hP.sub [0, 1, 2, 3, 4, 5] rfl) (hD.sub [0, 1, 2, 3, 4, 5] (by decide) rfl) hS (lv_sub hl [2, 3, 4, 5, 6, 7, 0] rfl)
def g_Matcher_sort_L2 (N : Nat) (n0_starts : Nat) (n1_bytes : Nat) (f1_bytes : Nat → Int32) (n4 : Nat) (f4 : Nat → Int32) (n5 : Nat) : Nat → Int32 → Int32 → Int32 → (Nat → Int32) → (Nat → Int32) → Option ((Nat → Int32) × (Nat → Int32))
  | 0, _, _, _, _, _ => none
  | n + 1, x2, x3, x6, f0_starts, f5 => (if (256 : Int32) ≤ x6 then (g_Matcher_sort_L3 n0_starts n1_bytes f1_bytes n4 f4 n5 N x2 x3 (0 : Int32) f0_starts f5) else (if x6 + (1 : Int32) < 0 ∨ n0_starts ≤ (x6 + (1 : Int32)).toNatClampNeg then none else (if x6 < 0 ∨ n0_starts ≤ x6.toNatClampNeg then none else (g_Matcher_sort_L2 N n0_starts n1_bytes f1_bytes n4 f4 n5 n x2 x3 (x6 + (1 : Int32)) (upd f0_starts (x6 + (1 : Int32)).toNatClampNeg ((f0_starts (x6 + (1 : Int32)).toNatClampNeg) + (f0_starts x6.toNatClampNeg))) f5))))
set_option maxHeartbeats 4000000 in
set_option maxRecDepth 100000 in
theorem w_Matcher_sort_L2 {p : Program} {l : Launch} {e : Env} {s : State} {m : MethodId} {args : Array Value} {below : List Frame} {meth : Method} {c : Code} {dC : Nat → ClassId} {dI : Nat → Nat → Nat} {cI cB cZ : ClassId} {tS : Nat} {A : Nat → Prop} (C0 : gz_C p s m args meth c b_Matcher_sort 8 none R_Matcher "sort" gz_W A (dC, dI) vwCl [(cI, .int), (cB, .byte), (cZ, .boolean)] tS) (a0 : Nat) (a1 : Nat) (a4 : Nat) (a5 : Nat) (a0_sorted : Nat) (a0_nearest : Nat) (a0_starts : Nat) (a1_bytes : Nat) (N : Nat) (v0_length : Int32) (v0_distance : Int32) (n0_starts : Nat) (v1_count : Int32) (v1_place : Int32) (n1_bytes : Nat) (f1_bytes : Nat → Int32) (n4 : Nat) (f4 : Nat → Int32) (n5 : Nat) (x : (Nat → Int32) × (Nat → Int32)) : ∀ n : Nat, t_Matcher_sort_L2 p l e s m args below meth c dC dI cI cB cZ tS A a0 a1 a4 a5 a0_sorted a0_nearest a0_starts a1_bytes N v0_length v0_distance n0_starts v1_count v1_place n1_bytes f1_bytes n4 f4 n5 x (g_Matcher_sort_L2 N n0_starts n1_bytes f1_bytes n4 f4 n5 n) := by
  obtain ⟨hx, hb, hr, hml, hown, hin0, hts, hlocks, hA, hK, hE⟩ := id C0
  intro n
  induction n with
  | zero =>
    intro x2 x3 x6 f0_starts f5 h
    cases h
  | succ n ih =>
    intro x2 x3 x6 f0_starts f5 h H locs ls hP hD hS hl
    rw [g_Matcher_sort_L2] at h
    refine lv_iload hx hb d_Matcher_sort_50 (lv_at hl 6 rfl) ?_
    refine lv_sipush (v := (256 : Int32)) hx hb d_Matcher_sort_52 (by decide) ?_
    refine lv_icmp_ge (tgt := 83) hx hb d_Matcher_sort_55 (by decide) (fun c5 => ?_) (fun c5 => ?_)
    · have h := gz_t h c5
      refine lv_iconst (v := (0 : Int32)) hx hb d_Matcher_sort_83 (by decide) ?_
      refine lv_istore (lv' := [(6, .int (0 : Int32)), (0, .ref a0), (1, .ref a1), (2, .int x2), (3, .int x3), (4, .ref a4), (5, .ref a5)]) hx hb d_Matcher_sort_84 hl (by decide) rfl (fun ls hl => ?_)
      exact (w_Matcher_sort_L3 C0 a0 a1 a4 a5 a0_sorted a0_nearest a0_starts a1_bytes N v0_length v0_distance n0_starts v1_count v1_place n1_bytes f1_bytes n4 f4 n5 x N) x2 x3 (0 : Int32) f0_starts f5 h _ _ _ (hP.sub [0, 1, 2, 3, 4, 5] rfl) (hD.sub [0, 1, 2, 3, 4, 5] (by decide) rfl) hS (lv_sub hl [1, 2, 3, 4, 5, 6, 0] rfl)
    · have h := gz_f h c5
      refine lv_aload_n hx hb d_Matcher_sort_58 rfl (lv_at hl 0 rfl) ?_
      refine va_get (D := (dC, dI)) (ci := 4) (v := .ref a0_starts) (C := R_Matcher) (T := F_Matcher) (N := 5) hx hb hts in_Matcher hown hK hP 0 rfl rfl 2 (by decide) (hts _ kw_26) (fun _ h9 => h9) rfl d_Matcher_sort_59 ?_
      refine lv_iload hx hb d_Matcher_sort_62 (lv_at hl 6 rfl) ?_
      refine lv_iconst (v := (1 : Int32)) hx hb d_Matcher_sort_64 (by decide) ?_
      refine lv_iadd hx hb d_Matcher_sort_65 ?_
      refine lv_dup2_11 hx hb d_Matcher_sort_66 rfl rfl ?_
      obtain ⟨hi6, h⟩ := gz_n h
      refine va_iald hx hb hK hP 1 0 rfl rfl hi6 d_Matcher_sort_67 ?_
      refine lv_aload_n hx hb d_Matcher_sort_68 rfl (lv_at hl 0 rfl) ?_
      refine va_get (D := (dC, dI)) (ci := 4) (v := .ref a0_starts) (C := R_Matcher) (T := F_Matcher) (N := 5) hx hb hts in_Matcher hown hK hP 0 rfl rfl 2 (by decide) (hts _ kw_26) (fun _ h9 => h9) rfl d_Matcher_sort_69 ?_
      refine lv_iload hx hb d_Matcher_sort_72 (lv_at hl 6 rfl) ?_
      obtain ⟨hi7, h⟩ := gz_n h
      refine va_iald hx hb hK hP 1 0 rfl rfl hi7 d_Matcher_sort_74 ?_
      refine lv_iadd hx hb d_Matcher_sort_75 ?_
      refine va_iast hx hb hK hP hD hS 1 0 rfl rfl hi6 d_Matcher_sort_76 (fun H locs hP hD hS => ?_)
      have hP : va_P (dC, dI) vwCl [(a0, .inr (4, [.ref a0_sorted, .ref a0_nearest, .ref a0_starts, .int v0_length, .int v0_distance])), (a0_starts, .inl (cI, n0_starts, .inl (upd f0_starts (x6 + (1 : Int32)).toNatClampNeg ((f0_starts (x6 + (1 : Int32)).toNatClampNeg) + (f0_starts x6.toNatClampNeg))))), (a1, .inr (1, [.ref a1_bytes, .int v1_count, .int v1_place])), (a1_bytes, .inl (cB, n1_bytes, .inl f1_bytes)), (a4, .inl (cI, n4, .inl f4)), (a5, .inl (cI, n5, .inl f5))] H := hP
      have hD : va_D A [(a0, .inr (4, [.ref a0_sorted, .ref a0_nearest, .ref a0_starts, .int v0_length, .int v0_distance])), (a0_starts, .inl (cI, n0_starts, .inl (upd f0_starts (x6 + (1 : Int32)).toNatClampNeg ((f0_starts (x6 + (1 : Int32)).toNatClampNeg) + (f0_starts x6.toNatClampNeg))))), (a1, .inr (1, [.ref a1_bytes, .int v1_count, .int v1_place])), (a1_bytes, .inl (cB, n1_bytes, .inl f1_bytes)), (a4, .inl (cI, n4, .inl f4)), (a5, .inl (cI, n5, .inl f5))] := hD
      refine lv_iinc (v := x6 + (1 : Int32)) (lv' := [(6, .int (x6 + (1 : Int32))), (0, .ref a0), (1, .ref a1), (2, .int x2), (3, .int x3), (4, .ref a4), (5, .ref a5)]) hx hb d_Matcher_sort_77 hl (k := 6) rfl rfl (by decide) rfl (fun ls hl => ?_)
      refine lv_goto (tgt := 50) hx hb d_Matcher_sort_80 (by decide) ?_
      exact ih x2 x3 (x6 + (1 : Int32)) (upd f0_starts (x6 + (1 : Int32)).toNatClampNeg ((f0_starts (x6 + (1 : Int32)).toNatClampNeg) + (f0_starts x6.toNatClampNeg))) f5 h _ _ _ (hP.sub [0, 1, 2, 3, 4, 5] rfl) (hD.sub [0, 1, 2, 3, 4, 5] (by decide) rfl) hS (lv_sub hl [1, 2, 3, 4, 5, 6, 0] rfl)
def g_Matcher_sort_L1 (N : Nat) (n0_starts : Nat) (n1_bytes : Nat) (f1_bytes : Nat → Int32) (n4 : Nat) (f4 : Nat → Int32) (n5 : Nat) : Nat → Int32 → Int32 → Int32 → (Nat → Int32) → (Nat → Int32) → Option ((Nat → Int32) × (Nat → Int32))
  | 0, _, _, _, _, _ => none
  | n + 1, x2, x3, x6, f0_starts, f5 => (if x2 ≤ x6 then (g_Matcher_sort_L2 N n0_starts n1_bytes f1_bytes n4 f4 n5 N x2 x3 (0 : Int32) f0_starts f5) else (if x6 + x3 < 0 ∨ n1_bytes ≤ (x6 + x3).toNatClampNeg then none else (if ((f1_bytes (x6 + x3).toNatClampNeg) &&& (255 : Int32)) + (1 : Int32) < 0 ∨ n0_starts ≤ (((f1_bytes (x6 + x3).toNatClampNeg) &&& (255 : Int32)) + (1 : Int32)).toNatClampNeg then none else (g_Matcher_sort_L1 N n0_starts n1_bytes f1_bytes n4 f4 n5 n x2 x3 (x6 + (1 : Int32)) (upd f0_starts (((f1_bytes (x6 + x3).toNatClampNeg) &&& (255 : Int32)) + (1 : Int32)).toNatClampNeg ((f0_starts (((f1_bytes (x6 + x3).toNatClampNeg) &&& (255 : Int32)) + (1 : Int32)).toNatClampNeg) + (1 : Int32))) f5))))
set_option maxHeartbeats 4000000 in
set_option maxRecDepth 100000 in
theorem w_Matcher_sort_L1 {p : Program} {l : Launch} {e : Env} {s : State} {m : MethodId} {args : Array Value} {below : List Frame} {meth : Method} {c : Code} {dC : Nat → ClassId} {dI : Nat → Nat → Nat} {cI cB cZ : ClassId} {tS : Nat} {A : Nat → Prop} (C0 : gz_C p s m args meth c b_Matcher_sort 8 none R_Matcher "sort" gz_W A (dC, dI) vwCl [(cI, .int), (cB, .byte), (cZ, .boolean)] tS) (a0 : Nat) (a1 : Nat) (a4 : Nat) (a5 : Nat) (a0_sorted : Nat) (a0_nearest : Nat) (a0_starts : Nat) (a1_bytes : Nat) (N : Nat) (v0_length : Int32) (v0_distance : Int32) (n0_starts : Nat) (v1_count : Int32) (v1_place : Int32) (n1_bytes : Nat) (f1_bytes : Nat → Int32) (n4 : Nat) (f4 : Nat → Int32) (n5 : Nat) (x : (Nat → Int32) × (Nat → Int32)) : ∀ n : Nat, t_Matcher_sort_L1 p l e s m args below meth c dC dI cI cB cZ tS A a0 a1 a4 a5 a0_sorted a0_nearest a0_starts a1_bytes N v0_length v0_distance n0_starts v1_count v1_place n1_bytes f1_bytes n4 f4 n5 x (g_Matcher_sort_L1 N n0_starts n1_bytes f1_bytes n4 f4 n5 n) := by
  obtain ⟨hx, hb, hr, hml, hown, hin0, hts, hlocks, hA, hK, hE⟩ := id C0
  intro n
  induction n with
  | zero =>
    intro x2 x3 x6 f0_starts f5 h
    cases h
  | succ n ih =>
    intro x2 x3 x6 f0_starts f5 h H locs ls hP hD hS hl
    rw [g_Matcher_sort_L1] at h
    refine lv_iload hx hb d_Matcher_sort_11 (lv_at hl 6 rfl) ?_
    refine lv_iload_n hx hb d_Matcher_sort_13 rfl (lv_at hl 2 rfl) ?_
    refine lv_icmp_ge (tgt := 47) hx hb d_Matcher_sort_14 (by decide) (fun c2 => ?_) (fun c2 => ?_)
    · have h := gz_t h c2
      refine lv_iconst (v := (0 : Int32)) hx hb d_Matcher_sort_47 (by decide) ?_
      refine lv_istore (lv' := [(6, .int (0 : Int32)), (0, .ref a0), (1, .ref a1), (2, .int x2), (3, .int x3), (4, .ref a4), (5, .ref a5)]) hx hb d_Matcher_sort_48 hl (by decide) rfl (fun ls hl => ?_)
      exact (w_Matcher_sort_L2 C0 a0 a1 a4 a5 a0_sorted a0_nearest a0_starts a1_bytes N v0_length v0_distance n0_starts v1_count v1_place n1_bytes f1_bytes n4 f4 n5 x N) x2 x3 (0 : Int32) f0_starts f5 h _ _ _ (hP.sub [0, 1, 2, 3, 4, 5] rfl) (hD.sub [0, 1, 2, 3, 4, 5] (by decide) rfl) hS (lv_sub hl [1, 2, 3, 4, 5, 6, 0] rfl)
    · have h := gz_f h c2
      refine lv_aload_n hx hb d_Matcher_sort_17 rfl (lv_at hl 0 rfl) ?_
      refine va_get (D := (dC, dI)) (ci := 4) (v := .ref a0_starts) (C := R_Matcher) (T := F_Matcher) (N := 5) hx hb hts in_Matcher hown hK hP 0 rfl rfl 2 (by decide) (hts _ kw_26) (fun _ h9 => h9) rfl d_Matcher_sort_18 ?_
      refine lv_aload_n hx hb d_Matcher_sort_21 rfl (lv_at hl 1 rfl) ?_
      refine va_get (D := (dC, dI)) (ci := 1) (v := .ref a1_bytes) (C := R_Row) (T := F_Row) (N := 3) hx hb hts in_Row hown hK hP 2 rfl rfl 0 (by decide) (hts _ kw_184) (fun _ h9 => h9) rfl d_Matcher_sort_22 ?_
      refine lv_iload hx hb d_Matcher_sort_25 (lv_at hl 6 rfl) ?_
      refine lv_iload_n hx hb d_Matcher_sort_27 rfl (lv_at hl 3 rfl) ?_
      refine lv_iadd hx hb d_Matcher_sort_28 ?_
      obtain ⟨hi3, h⟩ := gz_n h
      refine va_bald hx hb hK hP 3 1 rfl rfl hi3 d_Matcher_sort_29 ?_
      refine lv_sipush (v := (255 : Int32)) hx hb d_Matcher_sort_30 (by decide) ?_
      refine lv_iand hx hb d_Matcher_sort_33 ?_
      refine lv_iconst (v := (1 : Int32)) hx hb d_Matcher_sort_34 (by decide) ?_
      refine lv_iadd hx hb d_Matcher_sort_35 ?_
      refine lv_dup2_11 hx hb d_Matcher_sort_36 rfl rfl ?_
      obtain ⟨hi4, h⟩ := gz_n h
      refine va_iald hx hb hK hP 1 0 rfl rfl hi4 d_Matcher_sort_37 ?_
      refine lv_iconst (v := (1 : Int32)) hx hb d_Matcher_sort_38 (by decide) ?_
      refine lv_iadd hx hb d_Matcher_sort_39 ?_
      refine va_iast hx hb hK hP hD hS 1 0 rfl rfl hi4 d_Matcher_sort_40 (fun H locs hP hD hS => ?_)
      have hP : va_P (dC, dI) vwCl [(a0, .inr (4, [.ref a0_sorted, .ref a0_nearest, .ref a0_starts, .int v0_length, .int v0_distance])), (a0_starts, .inl (cI, n0_starts, .inl (upd f0_starts (((f1_bytes (x6 + x3).toNatClampNeg) &&& (255 : Int32)) + (1 : Int32)).toNatClampNeg ((f0_starts (((f1_bytes (x6 + x3).toNatClampNeg) &&& (255 : Int32)) + (1 : Int32)).toNatClampNeg) + (1 : Int32))))), (a1, .inr (1, [.ref a1_bytes, .int v1_count, .int v1_place])), (a1_bytes, .inl (cB, n1_bytes, .inl f1_bytes)), (a4, .inl (cI, n4, .inl f4)), (a5, .inl (cI, n5, .inl f5))] H := hP
      have hD : va_D A [(a0, .inr (4, [.ref a0_sorted, .ref a0_nearest, .ref a0_starts, .int v0_length, .int v0_distance])), (a0_starts, .inl (cI, n0_starts, .inl (upd f0_starts (((f1_bytes (x6 + x3).toNatClampNeg) &&& (255 : Int32)) + (1 : Int32)).toNatClampNeg ((f0_starts (((f1_bytes (x6 + x3).toNatClampNeg) &&& (255 : Int32)) + (1 : Int32)).toNatClampNeg) + (1 : Int32))))), (a1, .inr (1, [.ref a1_bytes, .int v1_count, .int v1_place])), (a1_bytes, .inl (cB, n1_bytes, .inl f1_bytes)), (a4, .inl (cI, n4, .inl f4)), (a5, .inl (cI, n5, .inl f5))] := hD
      refine lv_iinc (v := x6 + (1 : Int32)) (lv' := [(6, .int (x6 + (1 : Int32))), (0, .ref a0), (1, .ref a1), (2, .int x2), (3, .int x3), (4, .ref a4), (5, .ref a5)]) hx hb d_Matcher_sort_41 hl (k := 6) rfl rfl (by decide) rfl (fun ls hl => ?_)
      refine lv_goto (tgt := 11) hx hb d_Matcher_sort_44 (by decide) ?_
      exact ih x2 x3 (x6 + (1 : Int32)) (upd f0_starts (((f1_bytes (x6 + x3).toNatClampNeg) &&& (255 : Int32)) + (1 : Int32)).toNatClampNeg ((f0_starts (((f1_bytes (x6 + x3).toNatClampNeg) &&& (255 : Int32)) + (1 : Int32)).toNatClampNeg) + (1 : Int32))) f5 h _ _ _ (hP.sub [0, 1, 2, 3, 4, 5] rfl) (hD.sub [0, 1, 2, 3, 4, 5] (by decide) rfl) hS (lv_sub hl [1, 2, 3, 4, 5, 6, 0] rfl)
def g_Matcher_sort_0 (N : Nat) (n0_starts : Nat) (n1_bytes : Nat) (f1_bytes : Nat → Int32) (n4 : Nat) (f4 : Nat → Int32) (n5 : Nat) (x2 : Int32) (x3 : Int32) (f0_starts : Nat → Int32) (f5 : Nat → Int32) : Option ((Nat → Int32) × (Nat → Int32)) := (Option.bind (g_Ar_fill2_0 N n0_starts (0 : Int32) f0_starts) (fun r1 => (g_Matcher_sort_L1 N n0_starts n1_bytes f1_bytes n4 f4 n5 N x2 x3 (0 : Int32) r1 f5)))
set_option maxHeartbeats 4000000 in
set_option maxRecDepth 100000 in
theorem w_Matcher_sort_0 {p : Program} {l : Launch} {e : Env} {s : State} {m : MethodId} {args : Array Value} {below : List Frame} {meth : Method} {c : Code} {dC : Nat → ClassId} {dI : Nat → Nat → Nat} {cI cB cZ : ClassId} {tS : Nat} {A : Nat → Prop} (C0 : gz_C p s m args meth c b_Matcher_sort 8 none R_Matcher "sort" gz_W A (dC, dI) vwCl [(cI, .int), (cB, .byte), (cZ, .boolean)] tS) (a0 : Nat) (a1 : Nat) (a4 : Nat) (a5 : Nat) (a0_sorted : Nat) (a0_nearest : Nat) (a0_starts : Nat) (a1_bytes : Nat) (N : Nat) (v0_length : Int32) (v0_distance : Int32) (n0_starts : Nat) (v1_count : Int32) (v1_place : Int32) (n1_bytes : Nat) (f1_bytes : Nat → Int32) (n4 : Nat) (f4 : Nat → Int32) (n5 : Nat) (x : (Nat → Int32) × (Nat → Int32)) : t_Matcher_sort_0 p l e s m args below meth c dC dI cI cB cZ tS A a0 a1 a4 a5 a0_sorted a0_nearest a0_starts a1_bytes N v0_length v0_distance n0_starts v1_count v1_place n1_bytes f1_bytes n4 f4 n5 x (g_Matcher_sort_0 N n0_starts n1_bytes f1_bytes n4 f4 n5) := by
  obtain ⟨hx, hb, hr, hml, hown, hin0, hts, hlocks, hA, hK, hE⟩ := id C0
  intro x2 x3 f0_starts f5 h H locs ls hP hD hS hl
  rw [g_Matcher_sort_0] at h
  refine lv_aload_n hx hb d_Matcher_sort_0 rfl (lv_at hl 0 rfl) ?_
  refine va_get (D := (dC, dI)) (ci := 4) (v := .ref a0_starts) (C := R_Matcher) (T := F_Matcher) (N := 5) hx hb hts in_Matcher hown hK hP 0 rfl rfl 2 (by decide) (hts _ kw_26) (fun _ h9 => h9) rfl d_Matcher_sort_1 ?_
  refine lv_iconst (v := (0 : Int32)) hx hb d_Matcher_sort_4 (by decide) ?_
  obtain ⟨r1, hcr1, h⟩ := gz_b h
  refine gz_cv hP hD hS hA [1] [0, 2, 3, 4, 5] (wr := [(a0, .inr (4, [.ref a0_sorted, .ref a0_nearest, .ref a0_starts, .int v0_length, .int v0_distance])), (a1, .inr (1, [.ref a1_bytes, .int v1_count, .int v1_place])), (a1_bytes, .inl (cB, n1_bytes, .inl f1_bytes)), (a4, .inl (cI, n4, .inl f4)), (a5, .inl (cI, n5, .inl f5))]) rfl rfl (by decide) (by decide) (va_runS (As := [.ref a0_starts, .int (0 : Int32)]) (rest := []) ⟨hx, hb, hml, hown, hts⟩ (c_Ar_fill2 l dC dI cI cB cZ tS a0_starts H.size N n0_starts (0 : Int32) f0_starts r1 hcr1) (va_cwS 2 hts (gz_gS kw_183 kw_132 kw_130 kw_129) rfl rfl rfl (by decide +kernel) ⟨(Nat.le_of_ble_eq_true rfl), (Nat.le_of_ble_eq_true rfl)⟩) (gz_preS hK hE hP hD hS hA [1] (by decide) rfl) rfl rfl hl.1 rfl (lv_room (Nat.le_of_ble_eq_true rfl)) d_Matcher_sort_5 ⟨(Nat.le_of_ble_eq_true rfl), (Nat.le_of_ble_eq_true rfl)⟩) (fun _ H locs hP hD hS => ?_)
  have hP : va_P (dC, dI) vwCl [(a0, .inr (4, [.ref a0_sorted, .ref a0_nearest, .ref a0_starts, .int v0_length, .int v0_distance])), (a1, .inr (1, [.ref a1_bytes, .int v1_count, .int v1_place])), (a1_bytes, .inl (cB, n1_bytes, .inl f1_bytes)), (a4, .inl (cI, n4, .inl f4)), (a5, .inl (cI, n5, .inl f5)), (a0_starts, .inl (cI, n0_starts, .inl r1))] H := hP
  have hD : va_D A [(a0, .inr (4, [.ref a0_sorted, .ref a0_nearest, .ref a0_starts, .int v0_length, .int v0_distance])), (a1, .inr (1, [.ref a1_bytes, .int v1_count, .int v1_place])), (a1_bytes, .inl (cB, n1_bytes, .inl f1_bytes)), (a4, .inl (cI, n4, .inl f4)), (a5, .inl (cI, n5, .inl f5)), (a0_starts, .inl (cI, n0_starts, .inl r1))] := hD
  refine lv_iconst (v := (0 : Int32)) hx hb d_Matcher_sort_8 (by decide) ?_
  refine lv_istore (lv' := [(6, .int (0 : Int32)), (0, .ref a0), (1, .ref a1), (2, .int x2), (3, .int x3), (4, .ref a4), (5, .ref a5)]) hx hb d_Matcher_sort_9 hl (by decide) rfl (fun ls hl => ?_)
  exact (w_Matcher_sort_L1 C0 a0 a1 a4 a5 a0_sorted a0_nearest a0_starts a1_bytes N v0_length v0_distance n0_starts v1_count v1_place n1_bytes f1_bytes n4 f4 n5 x N) x2 x3 (0 : Int32) r1 f5 h _ _ _ (hP.sub [0, 5, 1, 2, 3, 4] rfl) (hD.sub [0, 5, 1, 2, 3, 4] (by decide) rfl) hS (lv_sub hl [1, 2, 3, 4, 5, 6, 0] rfl)
set_option maxHeartbeats 4000000 in
set_option maxRecDepth 100000 in
theorem c_Matcher_sort (l : Launch) (dC : Nat → ClassId) (dI : Nat → Nat → Nat) (cI cB cZ : ClassId) (tS : Nat) (a0 : Nat) (a1 : Nat) (a4 : Nat) (a5 : Nat) (a0_sorted : Nat) (a0_nearest : Nat) (a0_starts : Nat) (a1_bytes : Nat) (sz : Nat) (N : Nat) (v0_length : Int32) (v0_distance : Int32) (n0_starts : Nat) (v1_count : Int32) (v1_place : Int32) (n1_bytes : Nat) (f1_bytes : Nat → Int32) (n4 : Nat) (f4 : Nat → Int32) (n5 : Nat) (x2 : Int32) (x3 : Int32) (f0_starts : Nat → Int32) (f5 : Nat → Int32) (x : (Nat → Int32) × (Nat → Int32)) (hf : (g_Matcher_sort_0 N n0_starts n1_bytes f1_bytes n4 f4 n5 x2 x3 f0_starts f5) = some x) : Met l y_Matcher_sort w_Matcher_sortS rm_Matcher_sort (gz_Pc [.ref a0, .ref a1, .int x2, .int x3, .ref a4, .ref a5] (dC, dI) vwCl [(cI, .int), (cB, .byte), (cZ, .boolean)] tS [(a0, .inr (4, [.ref a0_sorted, .ref a0_nearest, .ref a0_starts, .int v0_length, .int v0_distance])), (a0_starts, .inl (cI, n0_starts, .inl f0_starts)), (a1, .inr (1, [.ref a1_bytes, .int v1_count, .int v1_place])), (a1_bytes, .inl (cB, n1_bytes, .inl f1_bytes)), (a4, .inl (cI, n4, .inl f4)), (a5, .inl (cI, n5, .inl f5))] sz) (va_Qv (fun (_ : Unit) => True) (gz_B (dC, dI) vwCl (va_A [(a0, .inr (4, [.ref a0_sorted, .ref a0_nearest, .ref a0_starts, .int v0_length, .int v0_distance])), (a0_starts, .inl (cI, n0_starts, .inl f0_starts)), (a1, .inr (1, [.ref a1_bytes, .int v1_count, .int v1_place])), (a1_bytes, .inl (cB, n1_bytes, .inl f1_bytes)), (a4, .inl (cI, n4, .inl f4)), (a5, .inl (cI, n5, .inl f5))] sz) (e_Matcher_sort dC dI cI cB cZ a0 a1 a4 a5 a0_sorted a0_nearest a0_starts a1_bytes N v0_length v0_distance n0_starts v1_count v1_place n1_bytes f1_bytes n4 f4 n5 x)) (va_A [(a0, .inr (4, [.ref a0_sorted, .ref a0_nearest, .ref a0_starts, .int v0_length, .int v0_distance])), (a0_starts, .inl (cI, n0_starts, .inl f0_starts)), (a1, .inr (1, [.ref a1_bytes, .int v1_count, .int v1_place])), (a1_bytes, .inl (cB, n1_bytes, .inl f1_bytes)), (a4, .inl (cI, n4, .inl f4)), (a5, .inl (cI, n5, .inl f5))] sz)) 0 0 (va_A [(a0, .inr (4, [.ref a0_sorted, .ref a0_nearest, .ref a0_starts, .int v0_length, .int v0_distance])), (a0_starts, .inl (cI, n0_starts, .inl f0_starts)), (a1, .inr (1, [.ref a1_bytes, .int v1_count, .int v1_place])), (a1_bytes, .inl (cB, n1_bytes, .inl f1_bytes)), (a4, .inl (cI, n4, .inl f4)), (a5, .inl (cI, n5, .inl f5))] sz) := by
  refine Met.ofW (cc := b_Matcher_sort) (maxL := 8) (ret := none) (by decide) rfl ?_
  intro p e s m args below meth c s₁ B hml hv
  obtain ⟨rfl, hsz, hP, hK, hD0, hE⟩ := hv
  subst hsz
  have hl := lv_entry ([.ref a0, .ref a1, .int x2, .int x3, .ref a4, .ref a5]) (n := 8) (Nat.le_of_ble_eq_true rfl)
  rw [lg_entry_eq]
  generalize (lg_sl ([.ref a0, .ref a1, .int x2, .int x3, .ref a4, .ref a5]) ++ List.replicate (8 - (lg_sl ([.ref a0, .ref a1, .int x2, .int x3, .ref a4, .ref a5])).length) Slot.unset).toArray = ls at hl ⊢
  have C0 : gz_C p s m _ meth c b_Matcher_sort 8 none R_Matcher "sort" gz_W _ (dC, dI) vwCl [(cI, .int), (cB, .byte), (cZ, .boolean)] tS := ⟨B.exec, B.bytes, B.returns, hml, findClass_of_methodNamed B.named, (name_of_methodNamed B.named B.method).1, fun w h => atoms_spec (ws := w_Matcher_sortS) B.pre w (List.mem_cons_of_mem _ h), B.notSynchronized, fun q h => Or.inr h, hK, hE⟩
  exact w_Matcher_sort_0 C0 a0 a1 a4 a5 a0_sorted a0_nearest a0_starts a1_bytes N v0_length v0_distance n0_starts v1_count v1_place n1_bytes f1_bytes n4 f4 n5 x x2 x3 f0_starts f5 hf _ _ _ hP (hD0.self (sz := s.heap.size)) va_S.rf (lv_sub hl [0, 1, 2, 3, 4, 5] rfl)
abbrev rm_Matcher_sameThree : Room := { frames := 0, cells := 0, slots := 0, locals := 0 }
abbrev e_Matcher_sameThree (dC : Nat → ClassId) (dI : Nat → Nat → Nat) (cI cB cZ : ClassId) (a0 : Nat) (a1 : Nat) (a1_bytes : Nat) (N : Nat) (v1_count : Int32) (v1_place : Int32) (n1_bytes : Nat) (f1_bytes : Nat → Int32) (x : Int32) (u : Unit) : va_W := [(a1, .inr (1, [.ref a1_bytes, .int v1_count, .int v1_place])), (a1_bytes, .inl (cB, n1_bytes, .inl f1_bytes))]
abbrev q_Matcher_sameThree (below : List Frame) (args : Array Value) (s : State) (dC : Nat → ClassId) (dI : Nat → Nat → Nat) (cI cB cZ : ClassId) (A : Nat → Prop) (a0 : Nat) (a1 : Nat) (a1_bytes : Nat) (N : Nat) (v1_count : Int32) (v1_place : Int32) (n1_bytes : Nat) (f1_bytes : Nat → Int32) (x : Int32) : State → Prop := MQ below (va_Qi (fun r (_ : Unit) => r = x) (gz_B (dC, dI) vwCl A (e_Matcher_sameThree dC dI cI cB cZ a0 a1 a1_bytes N v1_count v1_place n1_bytes f1_bytes x)) A) args s 0 0 A
def t_Matcher_sameThree_0 (p : Program) (l : Launch) (e : Env) (s : State) (m : MethodId) (args : Array Value) (below : List Frame) (meth : Method) (c : Code) (dC : Nat → ClassId) (dI : Nat → Nat → Nat) (cI cB cZ : ClassId) (tS : Nat) (A : Nat → Prop) (a0 : Nat) (a1 : Nat) (a1_bytes : Nat) (N : Nat) (v1_count : Int32) (v1_place : Int32) (n1_bytes : Nat) (f1_bytes : Nat → Int32) (x : Int32) (F : Int32 → Int32 → Option (Int32)) : Prop :=
  ∀ (x2 : Int32) (x3 : Int32), F x2 x3 = some x → ∀ (H : Heap) (locs : List Loc) (ls : Array Slot), va_P (dC, dI) vwCl [(a1, .inr (1, [.ref a1_bytes, .int v1_count, .int v1_place])), (a1_bytes, .inl (cB, n1_bytes, .inl f1_bytes))] H → va_D A [(a1, .inr (1, [.ref a1_bytes, .int v1_count, .int v1_place])), (a1_bytes, .inl (cB, n1_bytes, .inl f1_bytes))] → va_S A s.heap H locs → lv_has ls 4 [(1, .ref a1), (2, .int x2), (3, .int x3)] → W p l e rm_Matcher_sameThree s m args below meth c H locs 0 0 (q_Matcher_sameThree below args s dC dI cI cB cZ A a0 a1 a1_bytes N v1_count v1_place n1_bytes f1_bytes x) (F0 m 0 ls [])
def g_Matcher_sameThree_0 (n1_bytes : Nat) (f1_bytes : Nat → Int32) (x2 : Int32) (x3 : Int32) : Option (Int32) := (if x2 < 0 ∨ n1_bytes ≤ x2.toNatClampNeg then none else (if x3 < 0 ∨ n1_bytes ≤ x3.toNatClampNeg then none else (if (f1_bytes x2.toNatClampNeg) = (f1_bytes x3.toNatClampNeg) then (if x2 + (1 : Int32) < 0 ∨ n1_bytes ≤ (x2 + (1 : Int32)).toNatClampNeg then none else (if x3 + (1 : Int32) < 0 ∨ n1_bytes ≤ (x3 + (1 : Int32)).toNatClampNeg then none else (if (f1_bytes (x2 + (1 : Int32)).toNatClampNeg) = (f1_bytes (x3 + (1 : Int32)).toNatClampNeg) then (if x2 + (2 : Int32) < 0 ∨ n1_bytes ≤ (x2 + (2 : Int32)).toNatClampNeg then none else (if x3 + (2 : Int32) < 0 ∨ n1_bytes ≤ (x3 + (2 : Int32)).toNatClampNeg then none else (if (f1_bytes (x2 + (2 : Int32)).toNatClampNeg) = (f1_bytes (x3 + (2 : Int32)).toNatClampNeg) then some ((1 : Int32)) else some ((0 : Int32))))) else some ((0 : Int32))))) else some ((0 : Int32)))))
set_option maxHeartbeats 4000000 in
set_option maxRecDepth 100000 in
theorem w_Matcher_sameThree_0 {p : Program} {l : Launch} {e : Env} {s : State} {m : MethodId} {args : Array Value} {below : List Frame} {meth : Method} {c : Code} {dC : Nat → ClassId} {dI : Nat → Nat → Nat} {cI cB cZ : ClassId} {tS : Nat} {A : Nat → Prop} (C0 : gz_C p s m args meth c b_Matcher_sameThree 4 (some .boolean) R_Matcher "sameThree" gz_W A (dC, dI) vwCl [(cI, .int), (cB, .byte), (cZ, .boolean)] tS) (a0 : Nat) (a1 : Nat) (a1_bytes : Nat) (N : Nat) (v1_count : Int32) (v1_place : Int32) (n1_bytes : Nat) (f1_bytes : Nat → Int32) (x : Int32) : t_Matcher_sameThree_0 p l e s m args below meth c dC dI cI cB cZ tS A a0 a1 a1_bytes N v1_count v1_place n1_bytes f1_bytes x (g_Matcher_sameThree_0 n1_bytes f1_bytes) := by
  obtain ⟨hx, hb, hr, hml, hown, hin0, hts, hlocks, hA, hK, hE⟩ := id C0
  intro x2 x3 h H locs ls hP hD hS hl
  rw [g_Matcher_sameThree_0] at h
  refine lv_aload_n hx hb d_Matcher_sameThree_0 rfl (lv_at hl 0 rfl) ?_
  refine va_get (D := (dC, dI)) (ci := 1) (v := .ref a1_bytes) (C := R_Row) (T := F_Row) (N := 3) hx hb hts in_Row hown hK hP 0 rfl rfl 0 (by decide) (hts _ kw_184) (fun _ h9 => h9) rfl d_Matcher_sameThree_1 ?_
  refine lv_iload_n hx hb d_Matcher_sameThree_4 rfl (lv_at hl 1 rfl) ?_
  obtain ⟨hi1, h⟩ := gz_n h
  refine va_bald hx hb hK hP 1 1 rfl rfl hi1 d_Matcher_sameThree_5 ?_
  refine lv_aload_n hx hb d_Matcher_sameThree_6 rfl (lv_at hl 0 rfl) ?_
  refine va_get (D := (dC, dI)) (ci := 1) (v := .ref a1_bytes) (C := R_Row) (T := F_Row) (N := 3) hx hb hts in_Row hown hK hP 0 rfl rfl 0 (by decide) (hts _ kw_184) (fun _ h9 => h9) rfl d_Matcher_sameThree_7 ?_
  refine lv_iload_n hx hb d_Matcher_sameThree_10 rfl (lv_at hl 2 rfl) ?_
  obtain ⟨hi2, h⟩ := gz_n h
  refine va_bald hx hb hK hP 1 1 rfl rfl hi2 d_Matcher_sameThree_11 ?_
  refine lv_icmp_ne (tgt := 57) hx hb d_Matcher_sameThree_12 (by decide) (fun c3 => ?_) (fun c3 => ?_)
  · have h := gz_f h c3
    refine lv_iconst (v := (0 : Int32)) hx hb d_Matcher_sameThree_57 (by decide) ?_
    obtain rfl := Option.some.inj h
    exact W.zret (v := (0 : Int32)) hx hb hr rfl (fun t ht hW => ⟨⟨(0 : Int32), (), rfl, rfl, by rw [ht]; exact hP.sub [0, 1] rfl, hD.sub [0, 1] (by decide) rfl⟩, hS.F ht⟩) hS.2.2 d_Matcher_sameThree_58
  · have h := gz_t h c3
    refine lv_aload_n hx hb d_Matcher_sameThree_15 rfl (lv_at hl 0 rfl) ?_
    refine va_get (D := (dC, dI)) (ci := 1) (v := .ref a1_bytes) (C := R_Row) (T := F_Row) (N := 3) hx hb hts in_Row hown hK hP 0 rfl rfl 0 (by decide) (hts _ kw_184) (fun _ h9 => h9) rfl d_Matcher_sameThree_16 ?_
    refine lv_iload_n hx hb d_Matcher_sameThree_19 rfl (lv_at hl 1 rfl) ?_
    refine lv_iconst (v := (1 : Int32)) hx hb d_Matcher_sameThree_20 (by decide) ?_
    refine lv_iadd hx hb d_Matcher_sameThree_21 ?_
    obtain ⟨hi4, h⟩ := gz_n h
    refine va_bald hx hb hK hP 1 1 rfl rfl hi4 d_Matcher_sameThree_22 ?_
    refine lv_aload_n hx hb d_Matcher_sameThree_23 rfl (lv_at hl 0 rfl) ?_
    refine va_get (D := (dC, dI)) (ci := 1) (v := .ref a1_bytes) (C := R_Row) (T := F_Row) (N := 3) hx hb hts in_Row hown hK hP 0 rfl rfl 0 (by decide) (hts _ kw_184) (fun _ h9 => h9) rfl d_Matcher_sameThree_24 ?_
    refine lv_iload_n hx hb d_Matcher_sameThree_27 rfl (lv_at hl 2 rfl) ?_
    refine lv_iconst (v := (1 : Int32)) hx hb d_Matcher_sameThree_28 (by decide) ?_
    refine lv_iadd hx hb d_Matcher_sameThree_29 ?_
    obtain ⟨hi5, h⟩ := gz_n h
    refine va_bald hx hb hK hP 1 1 rfl rfl hi5 d_Matcher_sameThree_30 ?_
    refine lv_icmp_ne (tgt := 57) hx hb d_Matcher_sameThree_31 (by decide) (fun c6 => ?_) (fun c6 => ?_)
    · have h := gz_f h c6
      refine lv_iconst (v := (0 : Int32)) hx hb d_Matcher_sameThree_57 (by decide) ?_
      obtain rfl := Option.some.inj h
      exact W.zret (v := (0 : Int32)) hx hb hr rfl (fun t ht hW => ⟨⟨(0 : Int32), (), rfl, rfl, by rw [ht]; exact hP.sub [0, 1] rfl, hD.sub [0, 1] (by decide) rfl⟩, hS.F ht⟩) hS.2.2 d_Matcher_sameThree_58
    · have h := gz_t h c6
      refine lv_aload_n hx hb d_Matcher_sameThree_34 rfl (lv_at hl 0 rfl) ?_
      refine va_get (D := (dC, dI)) (ci := 1) (v := .ref a1_bytes) (C := R_Row) (T := F_Row) (N := 3) hx hb hts in_Row hown hK hP 0 rfl rfl 0 (by decide) (hts _ kw_184) (fun _ h9 => h9) rfl d_Matcher_sameThree_35 ?_
      refine lv_iload_n hx hb d_Matcher_sameThree_38 rfl (lv_at hl 1 rfl) ?_
      refine lv_iconst (v := (2 : Int32)) hx hb d_Matcher_sameThree_39 (by decide) ?_
      refine lv_iadd hx hb d_Matcher_sameThree_40 ?_
      obtain ⟨hi7, h⟩ := gz_n h
      refine va_bald hx hb hK hP 1 1 rfl rfl hi7 d_Matcher_sameThree_41 ?_
      refine lv_aload_n hx hb d_Matcher_sameThree_42 rfl (lv_at hl 0 rfl) ?_
      refine va_get (D := (dC, dI)) (ci := 1) (v := .ref a1_bytes) (C := R_Row) (T := F_Row) (N := 3) hx hb hts in_Row hown hK hP 0 rfl rfl 0 (by decide) (hts _ kw_184) (fun _ h9 => h9) rfl d_Matcher_sameThree_43 ?_
      refine lv_iload_n hx hb d_Matcher_sameThree_46 rfl (lv_at hl 2 rfl) ?_
      refine lv_iconst (v := (2 : Int32)) hx hb d_Matcher_sameThree_47 (by decide) ?_
      refine lv_iadd hx hb d_Matcher_sameThree_48 ?_
      obtain ⟨hi8, h⟩ := gz_n h
      refine va_bald hx hb hK hP 1 1 rfl rfl hi8 d_Matcher_sameThree_49 ?_
      refine lv_icmp_ne (tgt := 57) hx hb d_Matcher_sameThree_50 (by decide) (fun c9 => ?_) (fun c9 => ?_)
      · have h := gz_f h c9
        refine lv_iconst (v := (0 : Int32)) hx hb d_Matcher_sameThree_57 (by decide) ?_
        obtain rfl := Option.some.inj h
        exact W.zret (v := (0 : Int32)) hx hb hr rfl (fun t ht hW => ⟨⟨(0 : Int32), (), rfl, rfl, by rw [ht]; exact hP.sub [0, 1] rfl, hD.sub [0, 1] (by decide) rfl⟩, hS.F ht⟩) hS.2.2 d_Matcher_sameThree_58
      · have h := gz_t h c9
        refine lv_iconst (v := (1 : Int32)) hx hb d_Matcher_sameThree_53 (by decide) ?_
        refine lv_goto (tgt := 58) hx hb d_Matcher_sameThree_54 (by decide) ?_
        obtain rfl := Option.some.inj h
        exact W.zret (v := (1 : Int32)) hx hb hr rfl (fun t ht hW => ⟨⟨(1 : Int32), (), rfl, rfl, by rw [ht]; exact hP.sub [0, 1] rfl, hD.sub [0, 1] (by decide) rfl⟩, hS.F ht⟩) hS.2.2 d_Matcher_sameThree_58
set_option maxHeartbeats 4000000 in
set_option maxRecDepth 100000 in
theorem c_Matcher_sameThree (l : Launch) (dC : Nat → ClassId) (dI : Nat → Nat → Nat) (cI cB cZ : ClassId) (tS : Nat) (a0 : Nat) (a1 : Nat) (a1_bytes : Nat) (sz : Nat) (N : Nat) (v1_count : Int32) (v1_place : Int32) (n1_bytes : Nat) (f1_bytes : Nat → Int32) (x2 : Int32) (x3 : Int32) (x : Int32) (hf : (g_Matcher_sameThree_0 n1_bytes f1_bytes x2 x3) = some x) : Met l y_Matcher_sameThree w_Matcher_sameThreeS rm_Matcher_sameThree (gz_Pc [.ref a0, .ref a1, .int x2, .int x3] (dC, dI) vwCl [(cI, .int), (cB, .byte), (cZ, .boolean)] tS [(a1, .inr (1, [.ref a1_bytes, .int v1_count, .int v1_place])), (a1_bytes, .inl (cB, n1_bytes, .inl f1_bytes))] sz) (va_Qi (fun r (_ : Unit) => r = x) (gz_B (dC, dI) vwCl (va_A [(a1, .inr (1, [.ref a1_bytes, .int v1_count, .int v1_place])), (a1_bytes, .inl (cB, n1_bytes, .inl f1_bytes))] sz) (e_Matcher_sameThree dC dI cI cB cZ a0 a1 a1_bytes N v1_count v1_place n1_bytes f1_bytes x)) (va_A [(a1, .inr (1, [.ref a1_bytes, .int v1_count, .int v1_place])), (a1_bytes, .inl (cB, n1_bytes, .inl f1_bytes))] sz)) 0 0 (va_A [(a1, .inr (1, [.ref a1_bytes, .int v1_count, .int v1_place])), (a1_bytes, .inl (cB, n1_bytes, .inl f1_bytes))] sz) := by
  refine Met.ofW (cc := b_Matcher_sameThree) (maxL := 4) (ret := (some .boolean)) (by decide) rfl ?_
  intro p e s m args below meth c s₁ B hml hv
  obtain ⟨rfl, hsz, hP, hK, hD0, hE⟩ := hv
  subst hsz
  have hl := lv_entry ([.ref a0, .ref a1, .int x2, .int x3]) (n := 4) (Nat.le_of_ble_eq_true rfl)
  rw [lg_entry_eq]
  generalize (lg_sl ([.ref a0, .ref a1, .int x2, .int x3]) ++ List.replicate (4 - (lg_sl ([.ref a0, .ref a1, .int x2, .int x3])).length) Slot.unset).toArray = ls at hl ⊢
  have C0 : gz_C p s m _ meth c b_Matcher_sameThree 4 (some .boolean) R_Matcher "sameThree" gz_W _ (dC, dI) vwCl [(cI, .int), (cB, .byte), (cZ, .boolean)] tS := ⟨B.exec, B.bytes, B.returns, hml, findClass_of_methodNamed B.named, (name_of_methodNamed B.named B.method).1, fun w h => atoms_spec (ws := w_Matcher_sameThreeS) B.pre w (List.mem_cons_of_mem _ h), B.notSynchronized, fun q h => Or.inr h, hK, hE⟩
  exact w_Matcher_sameThree_0 C0 a0 a1 a1_bytes N v1_count v1_place n1_bytes f1_bytes x x2 x3 hf _ _ _ hP (hD0.self (sz := s.heap.size)) va_S.rf (lv_sub hl [1, 2, 3] rfl)
abbrev rm_Matcher_prepare : Room := { frames := 2, cells := 0, slots := 0, locals := 50 }
abbrev e_Matcher_prepare (dC : Nat → ClassId) (dI : Nat → Nat → Nat) (cI cB cZ : ClassId) (a0 : Nat) (a1 : Nat) (a1_bytes : Nat) (a0_sorted : Nat) (a0_nearest : Nat) (a0_starts : Nat) (N : Nat) (v1_count : Int32) (v1_place : Int32) (v0_length : Int32) (v0_distance : Int32) (n0_starts : Nat) (n1_bytes : Nat) (f1_bytes : Nat → Int32) (n0_nearest : Nat) (n0_sorted : Nat) (x : (Nat → Int32) × (Nat → Int32) × (Nat → Int32)) (u : Unit) : va_W := [(a1, .inr (1, [.ref a1_bytes, .int v1_count, .int v1_place])), (a0, .inr (4, [.ref a0_sorted, .ref a0_nearest, .ref a0_starts, .int v0_length, .int v0_distance])), (a0_starts, .inl (cI, n0_starts, .inl x.1)), (a1_bytes, .inl (cB, n1_bytes, .inl f1_bytes)), (a0_nearest, .inl (cI, n0_nearest, .inl x.2.2)), (a0_sorted, .inl (cI, n0_sorted, .inl x.2.1))]
abbrev q_Matcher_prepare (below : List Frame) (args : Array Value) (s : State) (dC : Nat → ClassId) (dI : Nat → Nat → Nat) (cI cB cZ : ClassId) (A : Nat → Prop) (a0 : Nat) (a1 : Nat) (a1_bytes : Nat) (a0_sorted : Nat) (a0_nearest : Nat) (a0_starts : Nat) (N : Nat) (v1_count : Int32) (v1_place : Int32) (v0_length : Int32) (v0_distance : Int32) (n0_starts : Nat) (n1_bytes : Nat) (f1_bytes : Nat → Int32) (n0_nearest : Nat) (n0_sorted : Nat) (x : (Nat → Int32) × (Nat → Int32) × (Nat → Int32)) : State → Prop := MQ below (va_Qv (fun (_ : Unit) => True) (gz_B (dC, dI) vwCl A (e_Matcher_prepare dC dI cI cB cZ a0 a1 a1_bytes a0_sorted a0_nearest a0_starts N v1_count v1_place v0_length v0_distance n0_starts n1_bytes f1_bytes n0_nearest n0_sorted x)) A) args s 0 0 A
def t_Matcher_prepare_J3 (p : Program) (l : Launch) (e : Env) (s : State) (m : MethodId) (args : Array Value) (below : List Frame) (meth : Method) (c : Code) (dC : Nat → ClassId) (dI : Nat → Nat → Nat) (cI cB cZ : ClassId) (tS : Nat) (A : Nat → Prop) (a0 : Nat) (a1 : Nat) (a1_bytes : Nat) (a0_sorted : Nat) (a0_nearest : Nat) (a0_starts : Nat) (N : Nat) (v1_count : Int32) (v1_place : Int32) (v0_length : Int32) (v0_distance : Int32) (n0_starts : Nat) (n1_bytes : Nat) (f1_bytes : Nat → Int32) (n0_nearest : Nat) (n0_sorted : Nat) (x : (Nat → Int32) × (Nat → Int32) × (Nat → Int32)) (F : Int32 → Int32 → Int32 → Int32 → (Nat → Int32) → (Nat → Int32) → (Nat → Int32) → Option ((Nat → Int32) × (Nat → Int32) × (Nat → Int32))) : Prop :=
  ∀ (x2 : Int32) (x3 : Int32) (y0 : Int32) (y1 : Int32) (f0_starts : Nat → Int32) (f0_sorted : Nat → Int32) (f0_nearest : Nat → Int32), F x2 x3 y0 y1 f0_starts f0_sorted f0_nearest = some x → ∀ (H : Heap) (locs : List Loc) (ls : Array Slot), va_P (dC, dI) vwCl [(a1, .inr (1, [.ref a1_bytes, .int v1_count, .int v1_place])), (a0, .inr (4, [.ref a0_sorted, .ref a0_nearest, .ref a0_starts, .int v0_length, .int v0_distance])), (a0_starts, .inl (cI, n0_starts, .inl f0_starts)), (a1_bytes, .inl (cB, n1_bytes, .inl f1_bytes)), (a0_nearest, .inl (cI, n0_nearest, .inl f0_nearest)), (a0_sorted, .inl (cI, n0_sorted, .inl f0_sorted))] H → va_D A [(a1, .inr (1, [.ref a1_bytes, .int v1_count, .int v1_place])), (a0, .inr (4, [.ref a0_sorted, .ref a0_nearest, .ref a0_starts, .int v0_length, .int v0_distance])), (a0_starts, .inl (cI, n0_starts, .inl f0_starts)), (a1_bytes, .inl (cB, n1_bytes, .inl f1_bytes)), (a0_nearest, .inl (cI, n0_nearest, .inl f0_nearest)), (a0_sorted, .inl (cI, n0_sorted, .inl f0_sorted))] → va_S A s.heap H locs → lv_has ls 5 [(0, .ref a0), (1, .ref a1), (2, .int x2), (3, .int x3)] → W p l e rm_Matcher_prepare s m args below meth c H locs 0 0 (q_Matcher_prepare below args s dC dI cI cB cZ A a0 a1 a1_bytes a0_sorted a0_nearest a0_starts N v1_count v1_place v0_length v0_distance n0_starts n1_bytes f1_bytes n0_nearest n0_sorted x) (F0 m 145 ls [.int y0, .int y1, .ref a0_nearest])
def t_Matcher_prepare_J2 (p : Program) (l : Launch) (e : Env) (s : State) (m : MethodId) (args : Array Value) (below : List Frame) (meth : Method) (c : Code) (dC : Nat → ClassId) (dI : Nat → Nat → Nat) (cI cB cZ : ClassId) (tS : Nat) (A : Nat → Prop) (a0 : Nat) (a1 : Nat) (a1_bytes : Nat) (a0_sorted : Nat) (a0_nearest : Nat) (a0_starts : Nat) (N : Nat) (v1_count : Int32) (v1_place : Int32) (v0_length : Int32) (v0_distance : Int32) (n0_starts : Nat) (n1_bytes : Nat) (f1_bytes : Nat → Int32) (n0_nearest : Nat) (n0_sorted : Nat) (x : (Nat → Int32) × (Nat → Int32) × (Nat → Int32)) (F : Int32 → Int32 → Int32 → (Nat → Int32) → (Nat → Int32) → (Nat → Int32) → Option ((Nat → Int32) × (Nat → Int32) × (Nat → Int32))) : Prop :=
  ∀ (x2 : Int32) (x3 : Int32) (y0 : Int32) (f0_starts : Nat → Int32) (f0_sorted : Nat → Int32) (f0_nearest : Nat → Int32), F x2 x3 y0 f0_starts f0_sorted f0_nearest = some x → ∀ (H : Heap) (locs : List Loc) (ls : Array Slot), va_P (dC, dI) vwCl [(a1, .inr (1, [.ref a1_bytes, .int v1_count, .int v1_place])), (a0, .inr (4, [.ref a0_sorted, .ref a0_nearest, .ref a0_starts, .int v0_length, .int v0_distance])), (a0_starts, .inl (cI, n0_starts, .inl f0_starts)), (a1_bytes, .inl (cB, n1_bytes, .inl f1_bytes)), (a0_nearest, .inl (cI, n0_nearest, .inl f0_nearest)), (a0_sorted, .inl (cI, n0_sorted, .inl f0_sorted))] H → va_D A [(a1, .inr (1, [.ref a1_bytes, .int v1_count, .int v1_place])), (a0, .inr (4, [.ref a0_sorted, .ref a0_nearest, .ref a0_starts, .int v0_length, .int v0_distance])), (a0_starts, .inl (cI, n0_starts, .inl f0_starts)), (a1_bytes, .inl (cB, n1_bytes, .inl f1_bytes)), (a0_nearest, .inl (cI, n0_nearest, .inl f0_nearest)), (a0_sorted, .inl (cI, n0_sorted, .inl f0_sorted))] → va_S A s.heap H locs → lv_has ls 5 [(0, .ref a0), (1, .ref a1), (2, .int x2), (3, .int x3)] → W p l e rm_Matcher_prepare s m args below meth c H locs 0 0 (q_Matcher_prepare below args s dC dI cI cB cZ A a0 a1 a1_bytes a0_sorted a0_nearest a0_starts N v1_count v1_place v0_length v0_distance n0_starts n1_bytes f1_bytes n0_nearest n0_sorted x) (F0 m 116 ls [.int y0])
def t_Matcher_prepare_J1 (p : Program) (l : Launch) (e : Env) (s : State) (m : MethodId) (args : Array Value) (below : List Frame) (meth : Method) (c : Code) (dC : Nat → ClassId) (dI : Nat → Nat → Nat) (cI cB cZ : ClassId) (tS : Nat) (A : Nat → Prop) (a0 : Nat) (a1 : Nat) (a1_bytes : Nat) (a0_sorted : Nat) (a0_nearest : Nat) (a0_starts : Nat) (N : Nat) (v1_count : Int32) (v1_place : Int32) (v0_length : Int32) (v0_distance : Int32) (n0_starts : Nat) (n1_bytes : Nat) (f1_bytes : Nat → Int32) (n0_nearest : Nat) (n0_sorted : Nat) (x : (Nat → Int32) × (Nat → Int32) × (Nat → Int32)) (F : Int32 → Int32 → (Nat → Int32) → (Nat → Int32) → (Nat → Int32) → Option ((Nat → Int32) × (Nat → Int32) × (Nat → Int32))) : Prop :=
  ∀ (x2 : Int32) (x3 : Int32) (f0_starts : Nat → Int32) (f0_sorted : Nat → Int32) (f0_nearest : Nat → Int32), F x2 x3 f0_starts f0_sorted f0_nearest = some x → ∀ (H : Heap) (locs : List Loc) (ls : Array Slot), va_P (dC, dI) vwCl [(a1, .inr (1, [.ref a1_bytes, .int v1_count, .int v1_place])), (a0, .inr (4, [.ref a0_sorted, .ref a0_nearest, .ref a0_starts, .int v0_length, .int v0_distance])), (a0_starts, .inl (cI, n0_starts, .inl f0_starts)), (a1_bytes, .inl (cB, n1_bytes, .inl f1_bytes)), (a0_nearest, .inl (cI, n0_nearest, .inl f0_nearest)), (a0_sorted, .inl (cI, n0_sorted, .inl f0_sorted))] H → va_D A [(a1, .inr (1, [.ref a1_bytes, .int v1_count, .int v1_place])), (a0, .inr (4, [.ref a0_sorted, .ref a0_nearest, .ref a0_starts, .int v0_length, .int v0_distance])), (a0_starts, .inl (cI, n0_starts, .inl f0_starts)), (a1_bytes, .inl (cB, n1_bytes, .inl f1_bytes)), (a0_nearest, .inl (cI, n0_nearest, .inl f0_nearest)), (a0_sorted, .inl (cI, n0_sorted, .inl f0_sorted))] → va_S A s.heap H locs → lv_has ls 5 [(0, .ref a0), (1, .ref a1), (2, .int x2), (3, .int x3)] → W p l e rm_Matcher_prepare s m args below meth c H locs 0 0 (q_Matcher_prepare below args s dC dI cI cB cZ A a0 a1 a1_bytes a0_sorted a0_nearest a0_starts N v1_count v1_place v0_length v0_distance n0_starts n1_bytes f1_bytes n0_nearest n0_sorted x) (F0 m 115 ls [])
def t_Matcher_prepare_L2 (p : Program) (l : Launch) (e : Env) (s : State) (m : MethodId) (args : Array Value) (below : List Frame) (meth : Method) (c : Code) (dC : Nat → ClassId) (dI : Nat → Nat → Nat) (cI cB cZ : ClassId) (tS : Nat) (A : Nat → Prop) (a0 : Nat) (a1 : Nat) (a1_bytes : Nat) (a0_sorted : Nat) (a0_nearest : Nat) (a0_starts : Nat) (N : Nat) (v1_count : Int32) (v1_place : Int32) (v0_length : Int32) (v0_distance : Int32) (n0_starts : Nat) (n1_bytes : Nat) (f1_bytes : Nat → Int32) (n0_nearest : Nat) (n0_sorted : Nat) (x : (Nat → Int32) × (Nat → Int32) × (Nat → Int32)) (F : Int32 → Int32 → (Nat → Int32) → (Nat → Int32) → (Nat → Int32) → Option ((Nat → Int32) × (Nat → Int32) × (Nat → Int32))) : Prop :=
  ∀ (x2 : Int32) (x3 : Int32) (f0_starts : Nat → Int32) (f0_sorted : Nat → Int32) (f0_nearest : Nat → Int32), F x2 x3 f0_starts f0_sorted f0_nearest = some x → ∀ (H : Heap) (locs : List Loc) (ls : Array Slot), va_P (dC, dI) vwCl [(a1, .inr (1, [.ref a1_bytes, .int v1_count, .int v1_place])), (a0, .inr (4, [.ref a0_sorted, .ref a0_nearest, .ref a0_starts, .int v0_length, .int v0_distance])), (a0_starts, .inl (cI, n0_starts, .inl f0_starts)), (a1_bytes, .inl (cB, n1_bytes, .inl f1_bytes)), (a0_nearest, .inl (cI, n0_nearest, .inl f0_nearest)), (a0_sorted, .inl (cI, n0_sorted, .inl f0_sorted))] H → va_D A [(a1, .inr (1, [.ref a1_bytes, .int v1_count, .int v1_place])), (a0, .inr (4, [.ref a0_sorted, .ref a0_nearest, .ref a0_starts, .int v0_length, .int v0_distance])), (a0_starts, .inl (cI, n0_starts, .inl f0_starts)), (a1_bytes, .inl (cB, n1_bytes, .inl f1_bytes)), (a0_nearest, .inl (cI, n0_nearest, .inl f0_nearest)), (a0_sorted, .inl (cI, n0_sorted, .inl f0_sorted))] → va_S A s.heap H locs → lv_has ls 5 [(0, .ref a0), (1, .ref a1), (2, .int x2), (3, .int x3)] → W p l e rm_Matcher_prepare s m args below meth c H locs 0 0 (q_Matcher_prepare below args s dC dI cI cB cZ A a0 a1 a1_bytes a0_sorted a0_nearest a0_starts N v1_count v1_place v0_length v0_distance n0_starts n1_bytes f1_bytes n0_nearest n0_sorted x) (F0 m 80 ls [])
def t_Matcher_prepare_L1 (p : Program) (l : Launch) (e : Env) (s : State) (m : MethodId) (args : Array Value) (below : List Frame) (meth : Method) (c : Code) (dC : Nat → ClassId) (dI : Nat → Nat → Nat) (cI cB cZ : ClassId) (tS : Nat) (A : Nat → Prop) (a0 : Nat) (a1 : Nat) (a1_bytes : Nat) (a0_sorted : Nat) (a0_nearest : Nat) (a0_starts : Nat) (N : Nat) (v1_count : Int32) (v1_place : Int32) (v0_length : Int32) (v0_distance : Int32) (n0_starts : Nat) (n1_bytes : Nat) (f1_bytes : Nat → Int32) (n0_nearest : Nat) (n0_sorted : Nat) (x : (Nat → Int32) × (Nat → Int32) × (Nat → Int32)) (F : Int32 → Int32 → (Nat → Int32) → (Nat → Int32) → (Nat → Int32) → Option ((Nat → Int32) × (Nat → Int32) × (Nat → Int32))) : Prop :=
  ∀ (x2 : Int32) (x3 : Int32) (f0_starts : Nat → Int32) (f0_sorted : Nat → Int32) (f0_nearest : Nat → Int32), F x2 x3 f0_starts f0_sorted f0_nearest = some x → ∀ (H : Heap) (locs : List Loc) (ls : Array Slot), va_P (dC, dI) vwCl [(a1, .inr (1, [.ref a1_bytes, .int v1_count, .int v1_place])), (a0, .inr (4, [.ref a0_sorted, .ref a0_nearest, .ref a0_starts, .int v0_length, .int v0_distance])), (a0_starts, .inl (cI, n0_starts, .inl f0_starts)), (a1_bytes, .inl (cB, n1_bytes, .inl f1_bytes)), (a0_nearest, .inl (cI, n0_nearest, .inl f0_nearest)), (a0_sorted, .inl (cI, n0_sorted, .inl f0_sorted))] H → va_D A [(a1, .inr (1, [.ref a1_bytes, .int v1_count, .int v1_place])), (a0, .inr (4, [.ref a0_sorted, .ref a0_nearest, .ref a0_starts, .int v0_length, .int v0_distance])), (a0_starts, .inl (cI, n0_starts, .inl f0_starts)), (a1_bytes, .inl (cB, n1_bytes, .inl f1_bytes)), (a0_nearest, .inl (cI, n0_nearest, .inl f0_nearest)), (a0_sorted, .inl (cI, n0_sorted, .inl f0_sorted))] → va_S A s.heap H locs → lv_has ls 5 [(0, .ref a0), (1, .ref a1), (2, .int x2), (3, .int x3)] → W p l e rm_Matcher_prepare s m args below meth c H locs 0 0 (q_Matcher_prepare below args s dC dI cI cB cZ A a0 a1 a1_bytes a0_sorted a0_nearest a0_starts N v1_count v1_place v0_length v0_distance n0_starts n1_bytes f1_bytes n0_nearest n0_sorted x) (F0 m 15 ls [])
def t_Matcher_prepare_0 (p : Program) (l : Launch) (e : Env) (s : State) (m : MethodId) (args : Array Value) (below : List Frame) (meth : Method) (c : Code) (dC : Nat → ClassId) (dI : Nat → Nat → Nat) (cI cB cZ : ClassId) (tS : Nat) (A : Nat → Prop) (a0 : Nat) (a1 : Nat) (a1_bytes : Nat) (a0_sorted : Nat) (a0_nearest : Nat) (a0_starts : Nat) (N : Nat) (v1_count : Int32) (v1_place : Int32) (v0_length : Int32) (v0_distance : Int32) (n0_starts : Nat) (n1_bytes : Nat) (f1_bytes : Nat → Int32) (n0_nearest : Nat) (n0_sorted : Nat) (x : (Nat → Int32) × (Nat → Int32) × (Nat → Int32)) (F : (Nat → Int32) → (Nat → Int32) → (Nat → Int32) → Option ((Nat → Int32) × (Nat → Int32) × (Nat → Int32))) : Prop :=
  ∀ (f0_starts : Nat → Int32) (f0_sorted : Nat → Int32) (f0_nearest : Nat → Int32), F f0_starts f0_sorted f0_nearest = some x → ∀ (H : Heap) (locs : List Loc) (ls : Array Slot), va_P (dC, dI) vwCl [(a1, .inr (1, [.ref a1_bytes, .int v1_count, .int v1_place])), (a0, .inr (4, [.ref a0_sorted, .ref a0_nearest, .ref a0_starts, .int v0_length, .int v0_distance])), (a0_starts, .inl (cI, n0_starts, .inl f0_starts)), (a1_bytes, .inl (cB, n1_bytes, .inl f1_bytes)), (a0_nearest, .inl (cI, n0_nearest, .inl f0_nearest)), (a0_sorted, .inl (cI, n0_sorted, .inl f0_sorted))] H → va_D A [(a1, .inr (1, [.ref a1_bytes, .int v1_count, .int v1_place])), (a0, .inr (4, [.ref a0_sorted, .ref a0_nearest, .ref a0_starts, .int v0_length, .int v0_distance])), (a0_starts, .inl (cI, n0_starts, .inl f0_starts)), (a1_bytes, .inl (cB, n1_bytes, .inl f1_bytes)), (a0_nearest, .inl (cI, n0_nearest, .inl f0_nearest)), (a0_sorted, .inl (cI, n0_sorted, .inl f0_sorted))] → va_S A s.heap H locs → lv_has ls 5 [(0, .ref a0), (1, .ref a1)] → W p l e rm_Matcher_prepare s m args below meth c H locs 0 0 (q_Matcher_prepare below args s dC dI cI cB cZ A a0 a1 a1_bytes a0_sorted a0_nearest a0_starts N v1_count v1_place v0_length v0_distance n0_starts n1_bytes f1_bytes n0_nearest n0_sorted x) (F0 m 0 ls [])
def g_Matcher_prepare_J3 (n0_nearest : Nat) (K_Matcher_prepare_L2 : Int32 → Int32 → (Nat → Int32) → (Nat → Int32) → (Nat → Int32) → Option ((Nat → Int32) × (Nat → Int32) × (Nat → Int32))) (x2 : Int32) (x3 : Int32) (y0 : Int32) (y1 : Int32) (f0_starts : Nat → Int32) (f0_sorted : Nat → Int32) (f0_nearest : Nat → Int32) : Option ((Nat → Int32) × (Nat → Int32) × (Nat → Int32)) := (if y1 < 0 ∨ n0_nearest ≤ y1.toNatClampNeg then none else (K_Matcher_prepare_L2 x2 (x3 + (1 : Int32)) f0_starts f0_sorted (upd f0_nearest y1.toNatClampNeg y0)))
set_option maxHeartbeats 4000000 in
set_option maxRecDepth 100000 in
theorem w_Matcher_prepare_J3 {p : Program} {l : Launch} {e : Env} {s : State} {m : MethodId} {args : Array Value} {below : List Frame} {meth : Method} {c : Code} {dC : Nat → ClassId} {dI : Nat → Nat → Nat} {cI cB cZ : ClassId} {tS : Nat} {A : Nat → Prop} (C0 : gz_C p s m args meth c b_Matcher_prepare 5 none R_Matcher "prepare" gz_W A (dC, dI) vwCl [(cI, .int), (cB, .byte), (cZ, .boolean)] tS) (a0 : Nat) (a1 : Nat) (a1_bytes : Nat) (a0_sorted : Nat) (a0_nearest : Nat) (a0_starts : Nat) (N : Nat) (v1_count : Int32) (v1_place : Int32) (v0_length : Int32) (v0_distance : Int32) (n0_starts : Nat) (n1_bytes : Nat) (f1_bytes : Nat → Int32) (n0_nearest : Nat) (n0_sorted : Nat) (x : (Nat → Int32) × (Nat → Int32) × (Nat → Int32)) {K_Matcher_prepare_L2 : Int32 → Int32 → (Nat → Int32) → (Nat → Int32) → (Nat → Int32) → Option ((Nat → Int32) × (Nat → Int32) × (Nat → Int32))} (hK_Matcher_prepare_L2 : t_Matcher_prepare_L2 p l e s m args below meth c dC dI cI cB cZ tS A a0 a1 a1_bytes a0_sorted a0_nearest a0_starts N v1_count v1_place v0_length v0_distance n0_starts n1_bytes f1_bytes n0_nearest n0_sorted x K_Matcher_prepare_L2) : t_Matcher_prepare_J3 p l e s m args below meth c dC dI cI cB cZ tS A a0 a1 a1_bytes a0_sorted a0_nearest a0_starts N v1_count v1_place v0_length v0_distance n0_starts n1_bytes f1_bytes n0_nearest n0_sorted x (g_Matcher_prepare_J3 n0_nearest K_Matcher_prepare_L2) := by
  obtain ⟨hx, hb, hr, hml, hown, hin0, hts, hlocks, hA, hK, hE⟩ := id C0
  intro x2 x3 y0 y1 f0_starts f0_sorted f0_nearest h H locs ls hP hD hS hl
  rw [g_Matcher_prepare_J3] at h
  obtain ⟨hi15, h⟩ := gz_n h
  refine va_iast hx hb hK hP hD hS 4 0 rfl rfl hi15 d_Matcher_prepare_145 (fun H locs hP hD hS => ?_)
  have hP : va_P (dC, dI) vwCl [(a1, .inr (1, [.ref a1_bytes, .int v1_count, .int v1_place])), (a0, .inr (4, [.ref a0_sorted, .ref a0_nearest, .ref a0_starts, .int v0_length, .int v0_distance])), (a0_starts, .inl (cI, n0_starts, .inl f0_starts)), (a1_bytes, .inl (cB, n1_bytes, .inl f1_bytes)), (a0_nearest, .inl (cI, n0_nearest, .inl (upd f0_nearest y1.toNatClampNeg y0))), (a0_sorted, .inl (cI, n0_sorted, .inl f0_sorted))] H := hP
  have hD : va_D A [(a1, .inr (1, [.ref a1_bytes, .int v1_count, .int v1_place])), (a0, .inr (4, [.ref a0_sorted, .ref a0_nearest, .ref a0_starts, .int v0_length, .int v0_distance])), (a0_starts, .inl (cI, n0_starts, .inl f0_starts)), (a1_bytes, .inl (cB, n1_bytes, .inl f1_bytes)), (a0_nearest, .inl (cI, n0_nearest, .inl (upd f0_nearest y1.toNatClampNeg y0))), (a0_sorted, .inl (cI, n0_sorted, .inl f0_sorted))] := hD
  refine lv_iinc (v := x3 + (1 : Int32)) (lv' := [(3, .int (x3 + (1 : Int32))), (0, .ref a0), (1, .ref a1), (2, .int x2)]) hx hb d_Matcher_prepare_146 hl (k := 3) rfl rfl (by decide) rfl (fun ls hl => ?_)
  refine lv_goto (tgt := 80) hx hb d_Matcher_prepare_149 (by decide) ?_
  exact hK_Matcher_prepare_L2 x2 (x3 + (1 : Int32)) f0_starts f0_sorted (upd f0_nearest y1.toNatClampNeg y0) h _ _ _ (hP.sub [0, 1, 2, 3, 4, 5] rfl) (hD.sub [0, 1, 2, 3, 4, 5] (by decide) rfl) hS (lv_sub hl [1, 2, 3, 0] rfl)
def g_Matcher_prepare_J2 (n0_nearest : Nat) (n0_sorted : Nat) (K_Matcher_prepare_L2 : Int32 → Int32 → (Nat → Int32) → (Nat → Int32) → (Nat → Int32) → Option ((Nat → Int32) × (Nat → Int32) × (Nat → Int32))) (x2 : Int32) (x3 : Int32) (y0 : Int32) (f0_starts : Nat → Int32) (f0_sorted : Nat → Int32) (f0_nearest : Nat → Int32) : Option ((Nat → Int32) × (Nat → Int32) × (Nat → Int32)) := (if x3 < 0 ∨ n0_sorted ≤ x3.toNatClampNeg then none else (if y0 = 0 then (g_Matcher_prepare_J3 n0_nearest K_Matcher_prepare_L2 x2 x3 (-1 : Int32) (f0_sorted x3.toNatClampNeg) f0_starts f0_sorted f0_nearest) else (if x3 - (1 : Int32) < 0 ∨ n0_sorted ≤ (x3 - (1 : Int32)).toNatClampNeg then none else (g_Matcher_prepare_J3 n0_nearest K_Matcher_prepare_L2 x2 x3 (f0_sorted (x3 - (1 : Int32)).toNatClampNeg) (f0_sorted x3.toNatClampNeg) f0_starts f0_sorted f0_nearest))))
set_option maxHeartbeats 4000000 in
set_option maxRecDepth 100000 in
theorem w_Matcher_prepare_J2 {p : Program} {l : Launch} {e : Env} {s : State} {m : MethodId} {args : Array Value} {below : List Frame} {meth : Method} {c : Code} {dC : Nat → ClassId} {dI : Nat → Nat → Nat} {cI cB cZ : ClassId} {tS : Nat} {A : Nat → Prop} (C0 : gz_C p s m args meth c b_Matcher_prepare 5 none R_Matcher "prepare" gz_W A (dC, dI) vwCl [(cI, .int), (cB, .byte), (cZ, .boolean)] tS) (a0 : Nat) (a1 : Nat) (a1_bytes : Nat) (a0_sorted : Nat) (a0_nearest : Nat) (a0_starts : Nat) (N : Nat) (v1_count : Int32) (v1_place : Int32) (v0_length : Int32) (v0_distance : Int32) (n0_starts : Nat) (n1_bytes : Nat) (f1_bytes : Nat → Int32) (n0_nearest : Nat) (n0_sorted : Nat) (x : (Nat → Int32) × (Nat → Int32) × (Nat → Int32)) {K_Matcher_prepare_L2 : Int32 → Int32 → (Nat → Int32) → (Nat → Int32) → (Nat → Int32) → Option ((Nat → Int32) × (Nat → Int32) × (Nat → Int32))} (hK_Matcher_prepare_L2 : t_Matcher_prepare_L2 p l e s m args below meth c dC dI cI cB cZ tS A a0 a1 a1_bytes a0_sorted a0_nearest a0_starts N v1_count v1_place v0_length v0_distance n0_starts n1_bytes f1_bytes n0_nearest n0_sorted x K_Matcher_prepare_L2) : t_Matcher_prepare_J2 p l e s m args below meth c dC dI cI cB cZ tS A a0 a1 a1_bytes a0_sorted a0_nearest a0_starts N v1_count v1_place v0_length v0_distance n0_starts n1_bytes f1_bytes n0_nearest n0_sorted x (g_Matcher_prepare_J2 n0_nearest n0_sorted K_Matcher_prepare_L2) := by
  obtain ⟨hx, hb, hr, hml, hown, hin0, hts, hlocks, hA, hK, hE⟩ := id C0
  intro x2 x3 y0 f0_starts f0_sorted f0_nearest h H locs ls hP hD hS hl
  rw [g_Matcher_prepare_J2] at h
  refine lv_istore (lv' := [(4, .int y0), (0, .ref a0), (1, .ref a1), (2, .int x2), (3, .int x3)]) hx hb d_Matcher_prepare_116 hl (by decide) rfl (fun ls hl => ?_)
  refine lv_aload_n hx hb d_Matcher_prepare_118 rfl (lv_at hl 1 rfl) ?_
  refine va_get (D := (dC, dI)) (ci := 4) (v := .ref a0_nearest) (C := R_Matcher) (T := F_Matcher) (N := 5) hx hb hts in_Matcher hown hK hP 1 rfl rfl 1 (by decide) (hts _ kw_25) (fun _ h9 => h9) rfl d_Matcher_prepare_119 ?_
  refine lv_aload_n hx hb d_Matcher_prepare_122 rfl (lv_at hl 1 rfl) ?_
  refine va_get (D := (dC, dI)) (ci := 4) (v := .ref a0_sorted) (C := R_Matcher) (T := F_Matcher) (N := 5) hx hb hts in_Matcher hown hK hP 1 rfl rfl 0 (by decide) (hts _ kw_24) (fun _ h9 => h9) rfl d_Matcher_prepare_123 ?_
  refine lv_iload_n hx hb d_Matcher_prepare_126 rfl (lv_at hl 4 rfl) ?_
  obtain ⟨hi12, h⟩ := gz_n h
  refine va_iald hx hb hK hP 5 0 rfl rfl hi12 d_Matcher_prepare_127 ?_
  refine lv_iload hx hb d_Matcher_prepare_128 (lv_at hl 0 rfl) ?_
  refine lv_if_eq (tgt := 144) hx hb d_Matcher_prepare_130 (by decide) (fun c13 => ?_) (fun c13 => ?_)
  · have h := gz_t h c13
    refine lv_iconst (v := (-1 : Int32)) hx hb d_Matcher_prepare_144 (by decide) ?_
    exact (w_Matcher_prepare_J3 C0 a0 a1 a1_bytes a0_sorted a0_nearest a0_starts N v1_count v1_place v0_length v0_distance n0_starts n1_bytes f1_bytes n0_nearest n0_sorted x hK_Matcher_prepare_L2) x2 x3 (-1 : Int32) (f0_sorted x3.toNatClampNeg) f0_starts f0_sorted f0_nearest h _ _ _ (hP.sub [0, 1, 2, 3, 4, 5] rfl) (hD.sub [0, 1, 2, 3, 4, 5] (by decide) rfl) hS (lv_sub hl [1, 2, 3, 4] rfl)
  · have h := gz_f h c13
    refine lv_aload_n hx hb d_Matcher_prepare_133 rfl (lv_at hl 1 rfl) ?_
    refine va_get (D := (dC, dI)) (ci := 4) (v := .ref a0_sorted) (C := R_Matcher) (T := F_Matcher) (N := 5) hx hb hts in_Matcher hown hK hP 1 rfl rfl 0 (by decide) (hts _ kw_24) (fun _ h9 => h9) rfl d_Matcher_prepare_134 ?_
    refine lv_iload_n hx hb d_Matcher_prepare_137 rfl (lv_at hl 4 rfl) ?_
    refine lv_iconst (v := (1 : Int32)) hx hb d_Matcher_prepare_138 (by decide) ?_
    refine lv_isub hx hb d_Matcher_prepare_139 ?_
    obtain ⟨hi14, h⟩ := gz_n h
    refine va_iald hx hb hK hP 5 0 rfl rfl hi14 d_Matcher_prepare_140 ?_
    refine lv_goto (tgt := 145) hx hb d_Matcher_prepare_141 (by decide) ?_
    exact (w_Matcher_prepare_J3 C0 a0 a1 a1_bytes a0_sorted a0_nearest a0_starts N v1_count v1_place v0_length v0_distance n0_starts n1_bytes f1_bytes n0_nearest n0_sorted x hK_Matcher_prepare_L2) x2 x3 (f0_sorted (x3 - (1 : Int32)).toNatClampNeg) (f0_sorted x3.toNatClampNeg) f0_starts f0_sorted f0_nearest h _ _ _ (hP.sub [0, 1, 2, 3, 4, 5] rfl) (hD.sub [0, 1, 2, 3, 4, 5] (by decide) rfl) hS (lv_sub hl [1, 2, 3, 4] rfl)
def g_Matcher_prepare_J1 (n0_nearest : Nat) (n0_sorted : Nat) (K_Matcher_prepare_L2 : Int32 → Int32 → (Nat → Int32) → (Nat → Int32) → (Nat → Int32) → Option ((Nat → Int32) × (Nat → Int32) × (Nat → Int32))) (x2 : Int32) (x3 : Int32) (f0_starts : Nat → Int32) (f0_sorted : Nat → Int32) (f0_nearest : Nat → Int32) : Option ((Nat → Int32) × (Nat → Int32) × (Nat → Int32)) := (g_Matcher_prepare_J2 n0_nearest n0_sorted K_Matcher_prepare_L2 x2 x3 (0 : Int32) f0_starts f0_sorted f0_nearest)
set_option maxHeartbeats 4000000 in
set_option maxRecDepth 100000 in
theorem w_Matcher_prepare_J1 {p : Program} {l : Launch} {e : Env} {s : State} {m : MethodId} {args : Array Value} {below : List Frame} {meth : Method} {c : Code} {dC : Nat → ClassId} {dI : Nat → Nat → Nat} {cI cB cZ : ClassId} {tS : Nat} {A : Nat → Prop} (C0 : gz_C p s m args meth c b_Matcher_prepare 5 none R_Matcher "prepare" gz_W A (dC, dI) vwCl [(cI, .int), (cB, .byte), (cZ, .boolean)] tS) (a0 : Nat) (a1 : Nat) (a1_bytes : Nat) (a0_sorted : Nat) (a0_nearest : Nat) (a0_starts : Nat) (N : Nat) (v1_count : Int32) (v1_place : Int32) (v0_length : Int32) (v0_distance : Int32) (n0_starts : Nat) (n1_bytes : Nat) (f1_bytes : Nat → Int32) (n0_nearest : Nat) (n0_sorted : Nat) (x : (Nat → Int32) × (Nat → Int32) × (Nat → Int32)) {K_Matcher_prepare_L2 : Int32 → Int32 → (Nat → Int32) → (Nat → Int32) → (Nat → Int32) → Option ((Nat → Int32) × (Nat → Int32) × (Nat → Int32))} (hK_Matcher_prepare_L2 : t_Matcher_prepare_L2 p l e s m args below meth c dC dI cI cB cZ tS A a0 a1 a1_bytes a0_sorted a0_nearest a0_starts N v1_count v1_place v0_length v0_distance n0_starts n1_bytes f1_bytes n0_nearest n0_sorted x K_Matcher_prepare_L2) : t_Matcher_prepare_J1 p l e s m args below meth c dC dI cI cB cZ tS A a0 a1 a1_bytes a0_sorted a0_nearest a0_starts N v1_count v1_place v0_length v0_distance n0_starts n1_bytes f1_bytes n0_nearest n0_sorted x (g_Matcher_prepare_J1 n0_nearest n0_sorted K_Matcher_prepare_L2) := by
  obtain ⟨hx, hb, hr, hml, hown, hin0, hts, hlocks, hA, hK, hE⟩ := id C0
  intro x2 x3 f0_starts f0_sorted f0_nearest h H locs ls hP hD hS hl
  rw [g_Matcher_prepare_J1] at h
  refine lv_iconst (v := (0 : Int32)) hx hb d_Matcher_prepare_115 (by decide) ?_
  exact (w_Matcher_prepare_J2 C0 a0 a1 a1_bytes a0_sorted a0_nearest a0_starts N v1_count v1_place v0_length v0_distance n0_starts n1_bytes f1_bytes n0_nearest n0_sorted x hK_Matcher_prepare_L2) x2 x3 (0 : Int32) f0_starts f0_sorted f0_nearest h _ _ _ (hP.sub [0, 1, 2, 3, 4, 5] rfl) (hD.sub [0, 1, 2, 3, 4, 5] (by decide) rfl) hS (lv_sub hl [0, 1, 2, 3] rfl)
def g_Matcher_prepare_L2 (n1_bytes : Nat) (f1_bytes : Nat → Int32) (n0_nearest : Nat) (n0_sorted : Nat) : Nat → Int32 → Int32 → (Nat → Int32) → (Nat → Int32) → (Nat → Int32) → Option ((Nat → Int32) × (Nat → Int32) × (Nat → Int32))
  | 0, _, _, _, _, _ => none
  | n + 1, x2, x3, f0_starts, f0_sorted, f0_nearest => (if x2 ≤ x3 then some (f0_starts, f0_sorted, f0_nearest) else (if x3 ≤ 0 then (g_Matcher_prepare_J1 n0_nearest n0_sorted (g_Matcher_prepare_L2 n1_bytes f1_bytes n0_nearest n0_sorted n) x2 x3 f0_starts f0_sorted f0_nearest) else (if x3 - (1 : Int32) < 0 ∨ n0_sorted ≤ (x3 - (1 : Int32)).toNatClampNeg then none else (if x3 < 0 ∨ n0_sorted ≤ x3.toNatClampNeg then none else (Option.bind (g_Matcher_sameThree_0 n1_bytes f1_bytes (f0_sorted (x3 - (1 : Int32)).toNatClampNeg) (f0_sorted x3.toNatClampNeg)) (fun r10 => (if r10 = 0 then (g_Matcher_prepare_J1 n0_nearest n0_sorted (g_Matcher_prepare_L2 n1_bytes f1_bytes n0_nearest n0_sorted n) x2 x3 f0_starts f0_sorted f0_nearest) else (g_Matcher_prepare_J2 n0_nearest n0_sorted (g_Matcher_prepare_L2 n1_bytes f1_bytes n0_nearest n0_sorted n) x2 x3 (1 : Int32) f0_starts f0_sorted f0_nearest))))))))
set_option maxHeartbeats 4000000 in
set_option maxRecDepth 100000 in
theorem w_Matcher_prepare_L2 {p : Program} {l : Launch} {e : Env} {s : State} {m : MethodId} {args : Array Value} {below : List Frame} {meth : Method} {c : Code} {dC : Nat → ClassId} {dI : Nat → Nat → Nat} {cI cB cZ : ClassId} {tS : Nat} {A : Nat → Prop} (C0 : gz_C p s m args meth c b_Matcher_prepare 5 none R_Matcher "prepare" gz_W A (dC, dI) vwCl [(cI, .int), (cB, .byte), (cZ, .boolean)] tS) (a0 : Nat) (a1 : Nat) (a1_bytes : Nat) (a0_sorted : Nat) (a0_nearest : Nat) (a0_starts : Nat) (N : Nat) (v1_count : Int32) (v1_place : Int32) (v0_length : Int32) (v0_distance : Int32) (n0_starts : Nat) (n1_bytes : Nat) (f1_bytes : Nat → Int32) (n0_nearest : Nat) (n0_sorted : Nat) (x : (Nat → Int32) × (Nat → Int32) × (Nat → Int32)) : ∀ n : Nat, t_Matcher_prepare_L2 p l e s m args below meth c dC dI cI cB cZ tS A a0 a1 a1_bytes a0_sorted a0_nearest a0_starts N v1_count v1_place v0_length v0_distance n0_starts n1_bytes f1_bytes n0_nearest n0_sorted x (g_Matcher_prepare_L2 n1_bytes f1_bytes n0_nearest n0_sorted n) := by
  obtain ⟨hx, hb, hr, hml, hown, hin0, hts, hlocks, hA, hK, hE⟩ := id C0
  intro n
  induction n with
  | zero =>
    intro x2 x3 f0_starts f0_sorted f0_nearest h
    cases h
  | succ n ih =>
    intro x2 x3 f0_starts f0_sorted f0_nearest h H locs ls hP hD hS hl
    rw [g_Matcher_prepare_L2] at h
    refine lv_iload_n hx hb d_Matcher_prepare_80 rfl (lv_at hl 3 rfl) ?_
    refine lv_iload_n hx hb d_Matcher_prepare_81 rfl (lv_at hl 2 rfl) ?_
    refine lv_icmp_ge (tgt := 152) hx hb d_Matcher_prepare_82 (by decide) (fun c6 => ?_) (fun c6 => ?_)
    · have h := gz_t h c6
      obtain rfl := Option.some.inj h
      exact W.vret hx hb hr (fun t ht hW => ⟨⟨(), rfl, trivial, by rw [ht]; exact hP.sub [0, 1, 2, 3, 4, 5] rfl, hD.sub [0, 1, 2, 3, 4, 5] (by decide) rfl⟩, hS.F ht⟩) hS.2.2 d_Matcher_prepare_152
    · have h := gz_f h c6
      refine lv_iload_n hx hb d_Matcher_prepare_85 rfl (lv_at hl 3 rfl) ?_
      refine lv_if_le (tgt := 115) hx hb d_Matcher_prepare_86 (by decide) (fun c7 => ?_) (fun c7 => ?_)
      · have h := gz_t h c7
        exact (w_Matcher_prepare_J1 C0 a0 a1 a1_bytes a0_sorted a0_nearest a0_starts N v1_count v1_place v0_length v0_distance n0_starts n1_bytes f1_bytes n0_nearest n0_sorted x ih) x2 x3 f0_starts f0_sorted f0_nearest h _ _ _ (hP.sub [0, 1, 2, 3, 4, 5] rfl) (hD.sub [0, 1, 2, 3, 4, 5] (by decide) rfl) hS (lv_sub hl [0, 1, 2, 3] rfl)
      · have h := gz_f h c7
        refine lv_aload_n hx hb d_Matcher_prepare_89 rfl (lv_at hl 0 rfl) ?_
        refine lv_aload_n hx hb d_Matcher_prepare_90 rfl (lv_at hl 1 rfl) ?_
        refine lv_aload_n hx hb d_Matcher_prepare_91 rfl (lv_at hl 0 rfl) ?_
        refine va_get (D := (dC, dI)) (ci := 4) (v := .ref a0_sorted) (C := R_Matcher) (T := F_Matcher) (N := 5) hx hb hts in_Matcher hown hK hP 1 rfl rfl 0 (by decide) (hts _ kw_24) (fun _ h9 => h9) rfl d_Matcher_prepare_92 ?_
        refine lv_iload_n hx hb d_Matcher_prepare_95 rfl (lv_at hl 3 rfl) ?_
        refine lv_iconst (v := (1 : Int32)) hx hb d_Matcher_prepare_96 (by decide) ?_
        refine lv_isub hx hb d_Matcher_prepare_97 ?_
        obtain ⟨hi8, h⟩ := gz_n h
        refine va_iald hx hb hK hP 5 0 rfl rfl hi8 d_Matcher_prepare_98 ?_
        refine lv_aload_n hx hb d_Matcher_prepare_99 rfl (lv_at hl 0 rfl) ?_
        refine va_get (D := (dC, dI)) (ci := 4) (v := .ref a0_sorted) (C := R_Matcher) (T := F_Matcher) (N := 5) hx hb hts in_Matcher hown hK hP 1 rfl rfl 0 (by decide) (hts _ kw_24) (fun _ h9 => h9) rfl d_Matcher_prepare_100 ?_
        refine lv_iload_n hx hb d_Matcher_prepare_103 rfl (lv_at hl 3 rfl) ?_
        obtain ⟨hi9, h⟩ := gz_n h
        refine va_iald hx hb hK hP 5 0 rfl rfl hi9 d_Matcher_prepare_104 ?_
        obtain ⟨r10, hcr10, h⟩ := gz_b h
        refine gz_ci hP hD hS hA [0, 3] [1, 2, 4, 5] (wr := [(a0, .inr (4, [.ref a0_sorted, .ref a0_nearest, .ref a0_starts, .int v0_length, .int v0_distance])), (a0_starts, .inl (cI, n0_starts, .inl f0_starts)), (a0_nearest, .inl (cI, n0_nearest, .inl f0_nearest)), (a0_sorted, .inl (cI, n0_sorted, .inl f0_sorted))]) rfl rfl (by decide) (by decide) (va_runV (As := [.ref a1, .int (f0_sorted (x3 - (1 : Int32)).toNatClampNeg), .int (f0_sorted x3.toNatClampNeg)]) (rest := []) ⟨hx, hb, hml, hown, hts⟩ (c_Matcher_sameThree l dC dI cI cB cZ tS a0 a1 a1_bytes H.size N v1_count v1_place n1_bytes f1_bytes (f0_sorted (x3 - (1 : Int32)).toNatClampNeg) (f0_sorted x3.toNatClampNeg) r10 hcr10) (cwV 3 hts (gz_gV kw_190 kw_191 kw_192 kw_21 kw_189) rfl rfl rfl (by decide +kernel) ⟨(Nat.le_of_ble_eq_true rfl), (Nat.le_of_ble_eq_true rfl)⟩) (gz_preV hK hE hP hD hS hA [0, 3] (by decide) rfl 1 4 rfl rfl) rfl rfl hl.1 rfl (lv_room (Nat.le_of_ble_eq_true rfl)) d_Matcher_prepare_105 ⟨(Nat.le_of_ble_eq_true rfl), (Nat.le_of_ble_eq_true rfl)⟩) (fun _ H locs hP hD hS => ?_)
        have hP : va_P (dC, dI) vwCl [(a0, .inr (4, [.ref a0_sorted, .ref a0_nearest, .ref a0_starts, .int v0_length, .int v0_distance])), (a0_starts, .inl (cI, n0_starts, .inl f0_starts)), (a0_nearest, .inl (cI, n0_nearest, .inl f0_nearest)), (a0_sorted, .inl (cI, n0_sorted, .inl f0_sorted)), (a1, .inr (1, [.ref a1_bytes, .int v1_count, .int v1_place])), (a1_bytes, .inl (cB, n1_bytes, .inl f1_bytes))] H := hP
        have hD : va_D A [(a0, .inr (4, [.ref a0_sorted, .ref a0_nearest, .ref a0_starts, .int v0_length, .int v0_distance])), (a0_starts, .inl (cI, n0_starts, .inl f0_starts)), (a0_nearest, .inl (cI, n0_nearest, .inl f0_nearest)), (a0_sorted, .inl (cI, n0_sorted, .inl f0_sorted)), (a1, .inr (1, [.ref a1_bytes, .int v1_count, .int v1_place])), (a1_bytes, .inl (cB, n1_bytes, .inl f1_bytes))] := hD
        refine lv_if_eq (tgt := 115) hx hb d_Matcher_prepare_108 (by decide) (fun c11 => ?_) (fun c11 => ?_)
        · have h := gz_t h c11
          exact (w_Matcher_prepare_J1 C0 a0 a1 a1_bytes a0_sorted a0_nearest a0_starts N v1_count v1_place v0_length v0_distance n0_starts n1_bytes f1_bytes n0_nearest n0_sorted x ih) x2 x3 f0_starts f0_sorted f0_nearest h _ _ _ (hP.sub [4, 0, 1, 5, 2, 3] rfl) (hD.sub [4, 0, 1, 5, 2, 3] (by decide) rfl) hS (lv_sub hl [0, 1, 2, 3] rfl)
        · have h := gz_f h c11
          refine lv_iconst (v := (1 : Int32)) hx hb d_Matcher_prepare_111 (by decide) ?_
          refine lv_goto (tgt := 116) hx hb d_Matcher_prepare_112 (by decide) ?_
          exact (w_Matcher_prepare_J2 C0 a0 a1 a1_bytes a0_sorted a0_nearest a0_starts N v1_count v1_place v0_length v0_distance n0_starts n1_bytes f1_bytes n0_nearest n0_sorted x ih) x2 x3 (1 : Int32) f0_starts f0_sorted f0_nearest h _ _ _ (hP.sub [4, 0, 1, 5, 2, 3] rfl) (hD.sub [4, 0, 1, 5, 2, 3] (by decide) rfl) hS (lv_sub hl [0, 1, 2, 3] rfl)
def g_Matcher_prepare_L1 (N : Nat) (n0_starts : Nat) (n1_bytes : Nat) (f1_bytes : Nat → Int32) (n0_nearest : Nat) (n0_sorted : Nat) : Nat → Int32 → Int32 → (Nat → Int32) → (Nat → Int32) → (Nat → Int32) → Option ((Nat → Int32) × (Nat → Int32) × (Nat → Int32))
  | 0, _, _, _, _, _ => none
  | n + 1, x2, x3, f0_starts, f0_sorted, f0_nearest => (if x2 ≤ x3 then (Option.bind (g_Matcher_sort_0 N n0_starts n1_bytes f1_bytes n0_nearest f0_nearest n0_sorted x2 (2 : Int32) f0_starts f0_sorted) (fun r2 => (Option.bind (g_Matcher_sort_0 N n0_starts n1_bytes f1_bytes n0_sorted r2.2 n0_nearest x2 (1 : Int32) r2.1 f0_nearest) (fun r3 => (Option.bind (g_Matcher_sort_0 N n0_starts n1_bytes f1_bytes n0_nearest r3.2 n0_sorted x2 (0 : Int32) r3.1 r2.2) (fun r4 => (g_Matcher_prepare_L2 n1_bytes f1_bytes n0_nearest n0_sorted N x2 (0 : Int32) r4.1 r4.2 r3.2))))))) else (if x3 < 0 ∨ n0_nearest ≤ x3.toNatClampNeg then none else (g_Matcher_prepare_L1 N n0_starts n1_bytes f1_bytes n0_nearest n0_sorted n x2 (x3 + (1 : Int32)) f0_starts f0_sorted (upd f0_nearest x3.toNatClampNeg x3))))
set_option maxHeartbeats 4000000 in
set_option maxRecDepth 100000 in
theorem w_Matcher_prepare_L1 {p : Program} {l : Launch} {e : Env} {s : State} {m : MethodId} {args : Array Value} {below : List Frame} {meth : Method} {c : Code} {dC : Nat → ClassId} {dI : Nat → Nat → Nat} {cI cB cZ : ClassId} {tS : Nat} {A : Nat → Prop} (C0 : gz_C p s m args meth c b_Matcher_prepare 5 none R_Matcher "prepare" gz_W A (dC, dI) vwCl [(cI, .int), (cB, .byte), (cZ, .boolean)] tS) (a0 : Nat) (a1 : Nat) (a1_bytes : Nat) (a0_sorted : Nat) (a0_nearest : Nat) (a0_starts : Nat) (N : Nat) (v1_count : Int32) (v1_place : Int32) (v0_length : Int32) (v0_distance : Int32) (n0_starts : Nat) (n1_bytes : Nat) (f1_bytes : Nat → Int32) (n0_nearest : Nat) (n0_sorted : Nat) (x : (Nat → Int32) × (Nat → Int32) × (Nat → Int32)) : ∀ n : Nat, t_Matcher_prepare_L1 p l e s m args below meth c dC dI cI cB cZ tS A a0 a1 a1_bytes a0_sorted a0_nearest a0_starts N v1_count v1_place v0_length v0_distance n0_starts n1_bytes f1_bytes n0_nearest n0_sorted x (g_Matcher_prepare_L1 N n0_starts n1_bytes f1_bytes n0_nearest n0_sorted n) := by
  obtain ⟨hx, hb, hr, hml, hown, hin0, hts, hlocks, hA, hK, hE⟩ := id C0
  intro n
  induction n with
  | zero =>
    intro x2 x3 f0_starts f0_sorted f0_nearest h
    cases h
  | succ n ih =>
    intro x2 x3 f0_starts f0_sorted f0_nearest h H locs ls hP hD hS hl
    rw [g_Matcher_prepare_L1] at h
    refine lv_iload_n hx hb d_Matcher_prepare_15 rfl (lv_at hl 3 rfl) ?_
    refine lv_iload_n hx hb d_Matcher_prepare_16 rfl (lv_at hl 2 rfl) ?_
    refine lv_icmp_ge (tgt := 33) hx hb d_Matcher_prepare_17 (by decide) (fun c1 => ?_) (fun c1 => ?_)
    · have h := gz_t h c1
      refine lv_aload_n hx hb d_Matcher_prepare_33 rfl (lv_at hl 0 rfl) ?_
      refine lv_aload_n hx hb d_Matcher_prepare_34 rfl (lv_at hl 1 rfl) ?_
      refine lv_iload_n hx hb d_Matcher_prepare_35 rfl (lv_at hl 2 rfl) ?_
      refine lv_iconst (v := (2 : Int32)) hx hb d_Matcher_prepare_36 (by decide) ?_
      refine lv_aload_n hx hb d_Matcher_prepare_37 rfl (lv_at hl 0 rfl) ?_
      refine va_get (D := (dC, dI)) (ci := 4) (v := .ref a0_nearest) (C := R_Matcher) (T := F_Matcher) (N := 5) hx hb hts in_Matcher hown hK hP 1 rfl rfl 1 (by decide) (hts _ kw_25) (fun _ h9 => h9) rfl d_Matcher_prepare_38 ?_
      refine lv_aload_n hx hb d_Matcher_prepare_41 rfl (lv_at hl 0 rfl) ?_
      refine va_get (D := (dC, dI)) (ci := 4) (v := .ref a0_sorted) (C := R_Matcher) (T := F_Matcher) (N := 5) hx hb hts in_Matcher hown hK hP 1 rfl rfl 0 (by decide) (hts _ kw_24) (fun _ h9 => h9) rfl d_Matcher_prepare_42 ?_
      obtain ⟨r2, hcr2, h⟩ := gz_b h
      refine gz_cv hP hD hS hA [1, 2, 0, 3, 4, 5] [] (wr := []) rfl rfl (by decide) (by decide) (va_runV (As := [.ref a1, .int x2, .int (2 : Int32), .ref a0_nearest, .ref a0_sorted]) (rest := []) ⟨hx, hb, hml, hown, hts⟩ (c_Matcher_sort l dC dI cI cB cZ tS a0 a1 a0_nearest a0_sorted a0_sorted a0_nearest a0_starts a1_bytes H.size N v0_length v0_distance n0_starts v1_count v1_place n1_bytes f1_bytes n0_nearest f0_nearest n0_sorted x2 (2 : Int32) f0_starts f0_sorted r2 hcr2) (cwV 5 hts (gz_gV kw_186 kw_187 kw_188 kw_21 kw_185) rfl rfl rfl (by decide +kernel) ⟨(Nat.le_of_ble_eq_true rfl), (Nat.le_of_ble_eq_true rfl)⟩) (gz_preV hK hE hP hD hS hA [1, 2, 0, 3, 4, 5] (by decide) rfl 1 4 rfl rfl) rfl rfl hl.1 rfl (lv_room (Nat.le_of_ble_eq_true rfl)) d_Matcher_prepare_45 ⟨(Nat.le_of_ble_eq_true rfl), (Nat.le_of_ble_eq_true rfl)⟩) (fun _ H locs hP hD hS => ?_)
      have hP : va_P (dC, dI) vwCl [(a0, .inr (4, [.ref a0_sorted, .ref a0_nearest, .ref a0_starts, .int v0_length, .int v0_distance])), (a0_starts, .inl (cI, n0_starts, .inl r2.1)), (a1, .inr (1, [.ref a1_bytes, .int v1_count, .int v1_place])), (a1_bytes, .inl (cB, n1_bytes, .inl f1_bytes)), (a0_nearest, .inl (cI, n0_nearest, .inl f0_nearest)), (a0_sorted, .inl (cI, n0_sorted, .inl r2.2))] H := hP
      have hD : va_D A [(a0, .inr (4, [.ref a0_sorted, .ref a0_nearest, .ref a0_starts, .int v0_length, .int v0_distance])), (a0_starts, .inl (cI, n0_starts, .inl r2.1)), (a1, .inr (1, [.ref a1_bytes, .int v1_count, .int v1_place])), (a1_bytes, .inl (cB, n1_bytes, .inl f1_bytes)), (a0_nearest, .inl (cI, n0_nearest, .inl f0_nearest)), (a0_sorted, .inl (cI, n0_sorted, .inl r2.2))] := hD
      refine lv_aload_n hx hb d_Matcher_prepare_48 rfl (lv_at hl 0 rfl) ?_
      refine lv_aload_n hx hb d_Matcher_prepare_49 rfl (lv_at hl 1 rfl) ?_
      refine lv_iload_n hx hb d_Matcher_prepare_50 rfl (lv_at hl 2 rfl) ?_
      refine lv_iconst (v := (1 : Int32)) hx hb d_Matcher_prepare_51 (by decide) ?_
      refine lv_aload_n hx hb d_Matcher_prepare_52 rfl (lv_at hl 0 rfl) ?_
      refine va_get (D := (dC, dI)) (ci := 4) (v := .ref a0_sorted) (C := R_Matcher) (T := F_Matcher) (N := 5) hx hb hts in_Matcher hown hK hP 0 rfl rfl 0 (by decide) (hts _ kw_24) (fun _ h9 => h9) rfl d_Matcher_prepare_53 ?_
      refine lv_aload_n hx hb d_Matcher_prepare_56 rfl (lv_at hl 0 rfl) ?_
      refine va_get (D := (dC, dI)) (ci := 4) (v := .ref a0_nearest) (C := R_Matcher) (T := F_Matcher) (N := 5) hx hb hts in_Matcher hown hK hP 0 rfl rfl 1 (by decide) (hts _ kw_25) (fun _ h9 => h9) rfl d_Matcher_prepare_57 ?_
      obtain ⟨r3, hcr3, h⟩ := gz_b h
      refine gz_cv hP hD hS hA [0, 1, 2, 3, 5, 4] [] (wr := []) rfl rfl (by decide) (by decide) (va_runV (As := [.ref a1, .int x2, .int (1 : Int32), .ref a0_sorted, .ref a0_nearest]) (rest := []) ⟨hx, hb, hml, hown, hts⟩ (c_Matcher_sort l dC dI cI cB cZ tS a0 a1 a0_sorted a0_nearest a0_sorted a0_nearest a0_starts a1_bytes H.size N v0_length v0_distance n0_starts v1_count v1_place n1_bytes f1_bytes n0_sorted r2.2 n0_nearest x2 (1 : Int32) r2.1 f0_nearest r3 hcr3) (cwV 5 hts (gz_gV kw_186 kw_187 kw_188 kw_21 kw_185) rfl rfl rfl (by decide +kernel) ⟨(Nat.le_of_ble_eq_true rfl), (Nat.le_of_ble_eq_true rfl)⟩) (gz_preV hK hE hP hD hS hA [0, 1, 2, 3, 5, 4] (by decide) rfl 0 4 rfl rfl) rfl rfl hl.1 rfl (lv_room (Nat.le_of_ble_eq_true rfl)) d_Matcher_prepare_60 ⟨(Nat.le_of_ble_eq_true rfl), (Nat.le_of_ble_eq_true rfl)⟩) (fun _ H locs hP hD hS => ?_)
      have hP : va_P (dC, dI) vwCl [(a0, .inr (4, [.ref a0_sorted, .ref a0_nearest, .ref a0_starts, .int v0_length, .int v0_distance])), (a0_starts, .inl (cI, n0_starts, .inl r3.1)), (a1, .inr (1, [.ref a1_bytes, .int v1_count, .int v1_place])), (a1_bytes, .inl (cB, n1_bytes, .inl f1_bytes)), (a0_sorted, .inl (cI, n0_sorted, .inl r2.2)), (a0_nearest, .inl (cI, n0_nearest, .inl r3.2))] H := hP
      have hD : va_D A [(a0, .inr (4, [.ref a0_sorted, .ref a0_nearest, .ref a0_starts, .int v0_length, .int v0_distance])), (a0_starts, .inl (cI, n0_starts, .inl r3.1)), (a1, .inr (1, [.ref a1_bytes, .int v1_count, .int v1_place])), (a1_bytes, .inl (cB, n1_bytes, .inl f1_bytes)), (a0_sorted, .inl (cI, n0_sorted, .inl r2.2)), (a0_nearest, .inl (cI, n0_nearest, .inl r3.2))] := hD
      refine lv_aload_n hx hb d_Matcher_prepare_63 rfl (lv_at hl 0 rfl) ?_
      refine lv_aload_n hx hb d_Matcher_prepare_64 rfl (lv_at hl 1 rfl) ?_
      refine lv_iload_n hx hb d_Matcher_prepare_65 rfl (lv_at hl 2 rfl) ?_
      refine lv_iconst (v := (0 : Int32)) hx hb d_Matcher_prepare_66 (by decide) ?_
      refine lv_aload_n hx hb d_Matcher_prepare_67 rfl (lv_at hl 0 rfl) ?_
      refine va_get (D := (dC, dI)) (ci := 4) (v := .ref a0_nearest) (C := R_Matcher) (T := F_Matcher) (N := 5) hx hb hts in_Matcher hown hK hP 0 rfl rfl 1 (by decide) (hts _ kw_25) (fun _ h9 => h9) rfl d_Matcher_prepare_68 ?_
      refine lv_aload_n hx hb d_Matcher_prepare_71 rfl (lv_at hl 0 rfl) ?_
      refine va_get (D := (dC, dI)) (ci := 4) (v := .ref a0_sorted) (C := R_Matcher) (T := F_Matcher) (N := 5) hx hb hts in_Matcher hown hK hP 0 rfl rfl 0 (by decide) (hts _ kw_24) (fun _ h9 => h9) rfl d_Matcher_prepare_72 ?_
      obtain ⟨r4, hcr4, h⟩ := gz_b h
      refine gz_cv hP hD hS hA [0, 1, 2, 3, 5, 4] [] (wr := []) rfl rfl (by decide) (by decide) (va_runV (As := [.ref a1, .int x2, .int (0 : Int32), .ref a0_nearest, .ref a0_sorted]) (rest := []) ⟨hx, hb, hml, hown, hts⟩ (c_Matcher_sort l dC dI cI cB cZ tS a0 a1 a0_nearest a0_sorted a0_sorted a0_nearest a0_starts a1_bytes H.size N v0_length v0_distance n0_starts v1_count v1_place n1_bytes f1_bytes n0_nearest r3.2 n0_sorted x2 (0 : Int32) r3.1 r2.2 r4 hcr4) (cwV 5 hts (gz_gV kw_186 kw_187 kw_188 kw_21 kw_185) rfl rfl rfl (by decide +kernel) ⟨(Nat.le_of_ble_eq_true rfl), (Nat.le_of_ble_eq_true rfl)⟩) (gz_preV hK hE hP hD hS hA [0, 1, 2, 3, 5, 4] (by decide) rfl 0 4 rfl rfl) rfl rfl hl.1 rfl (lv_room (Nat.le_of_ble_eq_true rfl)) d_Matcher_prepare_75 ⟨(Nat.le_of_ble_eq_true rfl), (Nat.le_of_ble_eq_true rfl)⟩) (fun _ H locs hP hD hS => ?_)
      have hP : va_P (dC, dI) vwCl [(a0, .inr (4, [.ref a0_sorted, .ref a0_nearest, .ref a0_starts, .int v0_length, .int v0_distance])), (a0_starts, .inl (cI, n0_starts, .inl r4.1)), (a1, .inr (1, [.ref a1_bytes, .int v1_count, .int v1_place])), (a1_bytes, .inl (cB, n1_bytes, .inl f1_bytes)), (a0_nearest, .inl (cI, n0_nearest, .inl r3.2)), (a0_sorted, .inl (cI, n0_sorted, .inl r4.2))] H := hP
      have hD : va_D A [(a0, .inr (4, [.ref a0_sorted, .ref a0_nearest, .ref a0_starts, .int v0_length, .int v0_distance])), (a0_starts, .inl (cI, n0_starts, .inl r4.1)), (a1, .inr (1, [.ref a1_bytes, .int v1_count, .int v1_place])), (a1_bytes, .inl (cB, n1_bytes, .inl f1_bytes)), (a0_nearest, .inl (cI, n0_nearest, .inl r3.2)), (a0_sorted, .inl (cI, n0_sorted, .inl r4.2))] := hD
      refine lv_iconst (v := (0 : Int32)) hx hb d_Matcher_prepare_78 (by decide) ?_
      refine lv_istore_n (lv' := [(3, .int (0 : Int32)), (0, .ref a0), (1, .ref a1), (2, .int x2)]) hx hb d_Matcher_prepare_79 rfl hl (by decide) rfl (fun ls hl => ?_)
      exact (w_Matcher_prepare_L2 C0 a0 a1 a1_bytes a0_sorted a0_nearest a0_starts N v1_count v1_place v0_length v0_distance n0_starts n1_bytes f1_bytes n0_nearest n0_sorted x N) x2 (0 : Int32) r4.1 r4.2 r3.2 h _ _ _ (hP.sub [2, 0, 1, 3, 4, 5] rfl) (hD.sub [2, 0, 1, 3, 4, 5] (by decide) rfl) hS (lv_sub hl [1, 2, 3, 0] rfl)
    · have h := gz_f h c1
      refine lv_aload_n hx hb d_Matcher_prepare_20 rfl (lv_at hl 0 rfl) ?_
      refine va_get (D := (dC, dI)) (ci := 4) (v := .ref a0_nearest) (C := R_Matcher) (T := F_Matcher) (N := 5) hx hb hts in_Matcher hown hK hP 1 rfl rfl 1 (by decide) (hts _ kw_25) (fun _ h9 => h9) rfl d_Matcher_prepare_21 ?_
      refine lv_iload_n hx hb d_Matcher_prepare_24 rfl (lv_at hl 3 rfl) ?_
      refine lv_iload_n hx hb d_Matcher_prepare_25 rfl (lv_at hl 3 rfl) ?_
      obtain ⟨hi5, h⟩ := gz_n h
      refine va_iast hx hb hK hP hD hS 4 0 rfl rfl hi5 d_Matcher_prepare_26 (fun H locs hP hD hS => ?_)
      have hP : va_P (dC, dI) vwCl [(a1, .inr (1, [.ref a1_bytes, .int v1_count, .int v1_place])), (a0, .inr (4, [.ref a0_sorted, .ref a0_nearest, .ref a0_starts, .int v0_length, .int v0_distance])), (a0_starts, .inl (cI, n0_starts, .inl f0_starts)), (a1_bytes, .inl (cB, n1_bytes, .inl f1_bytes)), (a0_nearest, .inl (cI, n0_nearest, .inl (upd f0_nearest x3.toNatClampNeg x3))), (a0_sorted, .inl (cI, n0_sorted, .inl f0_sorted))] H := hP
      have hD : va_D A [(a1, .inr (1, [.ref a1_bytes, .int v1_count, .int v1_place])), (a0, .inr (4, [.ref a0_sorted, .ref a0_nearest, .ref a0_starts, .int v0_length, .int v0_distance])), (a0_starts, .inl (cI, n0_starts, .inl f0_starts)), (a1_bytes, .inl (cB, n1_bytes, .inl f1_bytes)), (a0_nearest, .inl (cI, n0_nearest, .inl (upd f0_nearest x3.toNatClampNeg x3))), (a0_sorted, .inl (cI, n0_sorted, .inl f0_sorted))] := hD
      refine lv_iinc (v := x3 + (1 : Int32)) (lv' := [(3, .int (x3 + (1 : Int32))), (0, .ref a0), (1, .ref a1), (2, .int x2)]) hx hb d_Matcher_prepare_27 hl (k := 3) rfl rfl (by decide) rfl (fun ls hl => ?_)
      refine lv_goto (tgt := 15) hx hb d_Matcher_prepare_30 (by decide) ?_
      exact ih x2 (x3 + (1 : Int32)) f0_starts f0_sorted (upd f0_nearest x3.toNatClampNeg x3) h _ _ _ (hP.sub [0, 1, 2, 3, 4, 5] rfl) (hD.sub [0, 1, 2, 3, 4, 5] (by decide) rfl) hS (lv_sub hl [1, 2, 3, 0] rfl)
def g_Matcher_prepare_0 (N : Nat) (v1_count : Int32) (n0_starts : Nat) (n1_bytes : Nat) (f1_bytes : Nat → Int32) (n0_nearest : Nat) (n0_sorted : Nat) (f0_starts : Nat → Int32) (f0_sorted : Nat → Int32) (f0_nearest : Nat → Int32) : Option ((Nat → Int32) × (Nat → Int32) × (Nat → Int32)) := (g_Matcher_prepare_L1 N n0_starts n1_bytes f1_bytes n0_nearest n0_sorted N ((if (8192 : Int32) < v1_count then (8192 : Int32) else v1_count) - (2 : Int32)) (0 : Int32) f0_starts f0_sorted f0_nearest)
set_option maxHeartbeats 4000000 in
set_option maxRecDepth 100000 in
theorem w_Matcher_prepare_0 {p : Program} {l : Launch} {e : Env} {s : State} {m : MethodId} {args : Array Value} {below : List Frame} {meth : Method} {c : Code} {dC : Nat → ClassId} {dI : Nat → Nat → Nat} {cI cB cZ : ClassId} {tS : Nat} {A : Nat → Prop} (C0 : gz_C p s m args meth c b_Matcher_prepare 5 none R_Matcher "prepare" gz_W A (dC, dI) vwCl [(cI, .int), (cB, .byte), (cZ, .boolean)] tS) (a0 : Nat) (a1 : Nat) (a1_bytes : Nat) (a0_sorted : Nat) (a0_nearest : Nat) (a0_starts : Nat) (N : Nat) (v1_count : Int32) (v1_place : Int32) (v0_length : Int32) (v0_distance : Int32) (n0_starts : Nat) (n1_bytes : Nat) (f1_bytes : Nat → Int32) (n0_nearest : Nat) (n0_sorted : Nat) (x : (Nat → Int32) × (Nat → Int32) × (Nat → Int32)) : t_Matcher_prepare_0 p l e s m args below meth c dC dI cI cB cZ tS A a0 a1 a1_bytes a0_sorted a0_nearest a0_starts N v1_count v1_place v0_length v0_distance n0_starts n1_bytes f1_bytes n0_nearest n0_sorted x (g_Matcher_prepare_0 N v1_count n0_starts n1_bytes f1_bytes n0_nearest n0_sorted) := by
  obtain ⟨hx, hb, hr, hml, hown, hin0, hts, hlocks, hA, hK, hE⟩ := id C0
  intro f0_starts f0_sorted f0_nearest h H locs ls hP hD hS hl
  rw [g_Matcher_prepare_0] at h
  refine lv_aload_n hx hb d_Matcher_prepare_0 rfl (lv_at hl 1 rfl) ?_
  refine va_get (D := (dC, dI)) (ci := 1) (v := .int v1_count) (C := R_Row) (T := F_Row) (N := 3) hx hb hts in_Row hown hK hP 0 rfl rfl 1 (by decide) (hts _ kw_181) (fun _ h9 => h9) rfl d_Matcher_prepare_1 ?_
  refine lv_sipush (v := (8192 : Int32)) hx hb d_Matcher_prepare_4 (by decide) ?_
  refine va_mmin hx hb (hml.trans hl.1.symm) hown (hts _ kw_182) (hts _ kw_166) (hts _ kw_167) (hts _ kw_168) (Nat.le_of_ble_eq_true rfl) (Nat.le_of_ble_eq_true rfl) (Nat.le_of_ble_eq_true rfl) (Nat.le_of_ble_eq_true rfl) d_Matcher_prepare_7 ?_
  refine lv_iconst (v := (2 : Int32)) hx hb d_Matcher_prepare_10 (by decide) ?_
  refine lv_isub hx hb d_Matcher_prepare_11 ?_
  refine lv_istore_n (lv' := [(2, .int ((if (8192 : Int32) < v1_count then (8192 : Int32) else v1_count) - (2 : Int32))), (0, .ref a0), (1, .ref a1)]) hx hb d_Matcher_prepare_12 rfl hl (by decide) rfl (fun ls hl => ?_)
  refine lv_iconst (v := (0 : Int32)) hx hb d_Matcher_prepare_13 (by decide) ?_
  refine lv_istore_n (lv' := [(3, .int (0 : Int32)), (2, .int ((if (8192 : Int32) < v1_count then (8192 : Int32) else v1_count) - (2 : Int32))), (0, .ref a0), (1, .ref a1)]) hx hb d_Matcher_prepare_14 rfl hl (by decide) rfl (fun ls hl => ?_)
  exact (w_Matcher_prepare_L1 C0 a0 a1 a1_bytes a0_sorted a0_nearest a0_starts N v1_count v1_place v0_length v0_distance n0_starts n1_bytes f1_bytes n0_nearest n0_sorted x N) ((if (8192 : Int32) < v1_count then (8192 : Int32) else v1_count) - (2 : Int32)) (0 : Int32) f0_starts f0_sorted f0_nearest h _ _ _ (hP.sub [0, 1, 2, 3, 4, 5] rfl) (hD.sub [0, 1, 2, 3, 4, 5] (by decide) rfl) hS (lv_sub hl [2, 3, 1, 0] rfl)
set_option maxHeartbeats 4000000 in
set_option maxRecDepth 100000 in
theorem c_Matcher_prepare (l : Launch) (dC : Nat → ClassId) (dI : Nat → Nat → Nat) (cI cB cZ : ClassId) (tS : Nat) (a0 : Nat) (a1 : Nat) (a1_bytes : Nat) (a0_sorted : Nat) (a0_nearest : Nat) (a0_starts : Nat) (sz : Nat) (N : Nat) (v1_count : Int32) (v1_place : Int32) (v0_length : Int32) (v0_distance : Int32) (n0_starts : Nat) (n1_bytes : Nat) (f1_bytes : Nat → Int32) (n0_nearest : Nat) (n0_sorted : Nat) (f0_starts : Nat → Int32) (f0_sorted : Nat → Int32) (f0_nearest : Nat → Int32) (x : (Nat → Int32) × (Nat → Int32) × (Nat → Int32)) (hf : (g_Matcher_prepare_0 N v1_count n0_starts n1_bytes f1_bytes n0_nearest n0_sorted f0_starts f0_sorted f0_nearest) = some x) : Met l y_Matcher_prepare w_Matcher_prepareS rm_Matcher_prepare (gz_Pc [.ref a0, .ref a1] (dC, dI) vwCl [(cI, .int), (cB, .byte), (cZ, .boolean)] tS [(a1, .inr (1, [.ref a1_bytes, .int v1_count, .int v1_place])), (a0, .inr (4, [.ref a0_sorted, .ref a0_nearest, .ref a0_starts, .int v0_length, .int v0_distance])), (a0_starts, .inl (cI, n0_starts, .inl f0_starts)), (a1_bytes, .inl (cB, n1_bytes, .inl f1_bytes)), (a0_nearest, .inl (cI, n0_nearest, .inl f0_nearest)), (a0_sorted, .inl (cI, n0_sorted, .inl f0_sorted))] sz) (va_Qv (fun (_ : Unit) => True) (gz_B (dC, dI) vwCl (va_A [(a1, .inr (1, [.ref a1_bytes, .int v1_count, .int v1_place])), (a0, .inr (4, [.ref a0_sorted, .ref a0_nearest, .ref a0_starts, .int v0_length, .int v0_distance])), (a0_starts, .inl (cI, n0_starts, .inl f0_starts)), (a1_bytes, .inl (cB, n1_bytes, .inl f1_bytes)), (a0_nearest, .inl (cI, n0_nearest, .inl f0_nearest)), (a0_sorted, .inl (cI, n0_sorted, .inl f0_sorted))] sz) (e_Matcher_prepare dC dI cI cB cZ a0 a1 a1_bytes a0_sorted a0_nearest a0_starts N v1_count v1_place v0_length v0_distance n0_starts n1_bytes f1_bytes n0_nearest n0_sorted x)) (va_A [(a1, .inr (1, [.ref a1_bytes, .int v1_count, .int v1_place])), (a0, .inr (4, [.ref a0_sorted, .ref a0_nearest, .ref a0_starts, .int v0_length, .int v0_distance])), (a0_starts, .inl (cI, n0_starts, .inl f0_starts)), (a1_bytes, .inl (cB, n1_bytes, .inl f1_bytes)), (a0_nearest, .inl (cI, n0_nearest, .inl f0_nearest)), (a0_sorted, .inl (cI, n0_sorted, .inl f0_sorted))] sz)) 0 0 (va_A [(a1, .inr (1, [.ref a1_bytes, .int v1_count, .int v1_place])), (a0, .inr (4, [.ref a0_sorted, .ref a0_nearest, .ref a0_starts, .int v0_length, .int v0_distance])), (a0_starts, .inl (cI, n0_starts, .inl f0_starts)), (a1_bytes, .inl (cB, n1_bytes, .inl f1_bytes)), (a0_nearest, .inl (cI, n0_nearest, .inl f0_nearest)), (a0_sorted, .inl (cI, n0_sorted, .inl f0_sorted))] sz) := by
  refine Met.ofW (cc := b_Matcher_prepare) (maxL := 5) (ret := none) (by decide) rfl ?_
  intro p e s m args below meth c s₁ B hml hv
  obtain ⟨rfl, hsz, hP, hK, hD0, hE⟩ := hv
  subst hsz
  have hl := lv_entry ([.ref a0, .ref a1]) (n := 5) (Nat.le_of_ble_eq_true rfl)
  rw [lg_entry_eq]
  generalize (lg_sl ([.ref a0, .ref a1]) ++ List.replicate (5 - (lg_sl ([.ref a0, .ref a1])).length) Slot.unset).toArray = ls at hl ⊢
  have C0 : gz_C p s m _ meth c b_Matcher_prepare 5 none R_Matcher "prepare" gz_W _ (dC, dI) vwCl [(cI, .int), (cB, .byte), (cZ, .boolean)] tS := ⟨B.exec, B.bytes, B.returns, hml, findClass_of_methodNamed B.named, (name_of_methodNamed B.named B.method).1, fun w h => atoms_spec (ws := w_Matcher_prepareS) B.pre w (List.mem_cons_of_mem _ h), B.notSynchronized, fun q h => Or.inr h, hK, hE⟩
  exact w_Matcher_prepare_0 C0 a0 a1 a1_bytes a0_sorted a0_nearest a0_starts N v1_count v1_place v0_length v0_distance n0_starts n1_bytes f1_bytes n0_nearest n0_sorted x f0_starts f0_sorted f0_nearest hf _ _ _ hP (hD0.self (sz := s.heap.size)) va_S.rf (lv_sub hl [0, 1] rfl)
abbrev rm_Row_skipToByte : Room := { frames := 0, cells := 0, slots := 0, locals := 0 }
abbrev e_Row_skipToByte (dC : Nat → ClassId) (dI : Nat → Nat → Nat) (cI cB cZ : ClassId) (a0 : Nat) (a0_bytes : Nat) (N : Nat) (v0_count : Int32) (x : Int32) (u : Unit) : va_W := [(a0, .inr (1, [.ref a0_bytes, .int v0_count, .int x]))]
abbrev q_Row_skipToByte (below : List Frame) (args : Array Value) (s : State) (dC : Nat → ClassId) (dI : Nat → Nat → Nat) (cI cB cZ : ClassId) (A : Nat → Prop) (a0 : Nat) (a0_bytes : Nat) (N : Nat) (v0_count : Int32) (x : Int32) : State → Prop := MQ below (va_Qv (fun (_ : Unit) => True) (gz_B (dC, dI) vwCl A (e_Row_skipToByte dC dI cI cB cZ a0 a0_bytes N v0_count x)) A) args s 0 0 A
def t_Row_skipToByte_0 (p : Program) (l : Launch) (e : Env) (s : State) (m : MethodId) (args : Array Value) (below : List Frame) (meth : Method) (c : Code) (dC : Nat → ClassId) (dI : Nat → Nat → Nat) (cI cB cZ : ClassId) (tS : Nat) (A : Nat → Prop) (a0 : Nat) (a0_bytes : Nat) (N : Nat) (v0_count : Int32) (x : Int32) (F : Int32 → Option (Int32)) : Prop :=
  ∀ (v0_place : Int32), F v0_place = some x → ∀ (H : Heap) (locs : List Loc) (ls : Array Slot), va_P (dC, dI) vwCl [(a0, .inr (1, [.ref a0_bytes, .int v0_count, .int v0_place]))] H → va_D A [(a0, .inr (1, [.ref a0_bytes, .int v0_count, .int v0_place]))] → va_S A s.heap H locs → lv_has ls 1 [(0, .ref a0)] → W p l e rm_Row_skipToByte s m args below meth c H locs 0 0 (q_Row_skipToByte below args s dC dI cI cB cZ A a0 a0_bytes N v0_count x) (F0 m 0 ls [])
def g_Row_skipToByte_0 (v0_place : Int32) : Option (Int32) := some ((v0_place + (7 : Int32)) &&& (-8 : Int32))
set_option maxHeartbeats 4000000 in
set_option maxRecDepth 100000 in
theorem w_Row_skipToByte_0 {p : Program} {l : Launch} {e : Env} {s : State} {m : MethodId} {args : Array Value} {below : List Frame} {meth : Method} {c : Code} {dC : Nat → ClassId} {dI : Nat → Nat → Nat} {cI cB cZ : ClassId} {tS : Nat} {A : Nat → Prop} (C0 : gz_C p s m args meth c b_Row_skipToByte 1 none R_Row "skipToByte" gz_W A (dC, dI) vwCl [(cI, .int), (cB, .byte), (cZ, .boolean)] tS) (a0 : Nat) (a0_bytes : Nat) (N : Nat) (v0_count : Int32) (x : Int32) : t_Row_skipToByte_0 p l e s m args below meth c dC dI cI cB cZ tS A a0 a0_bytes N v0_count x (g_Row_skipToByte_0) := by
  obtain ⟨hx, hb, hr, hml, hown, hin0, hts, hlocks, hA, hK, hE⟩ := id C0
  intro v0_place h H locs ls hP hD hS hl
  rw [g_Row_skipToByte_0] at h
  refine lv_aload_n hx hb d_Row_skipToByte_0 rfl (lv_at hl 0 rfl) ?_
  refine lv_aload_n hx hb d_Row_skipToByte_1 rfl (lv_at hl 0 rfl) ?_
  refine va_get (D := (dC, dI)) (ci := 1) (v := .int v0_place) (C := R_Row) (T := F_Row) (N := 3) hx hb hts in_Row hown hK hP 0 rfl rfl 2 (by decide) (hts _ kw_10) (fun _ h9 => h9) rfl d_Row_skipToByte_2 ?_
  refine lv_bipush (v := (7 : Int32)) hx hb d_Row_skipToByte_5 (by decide) ?_
  refine lv_iadd hx hb d_Row_skipToByte_7 ?_
  refine lv_bipush (v := (-8 : Int32)) hx hb d_Row_skipToByte_8 (by decide) ?_
  refine lv_iand hx hb d_Row_skipToByte_10 ?_
  refine va_put (D := (dC, dI)) (ci := 1) (v := .int ((v0_place + (7 : Int32)) &&& (-8 : Int32))) (ty := .int) (C := R_Row) (T := F_Row) (N := 3) hx hb hts in_Row t_Row t_Row_ok n_Row hown hK hP hD hS 0 rfl rfl 2 (by decide) (hts _ kw_10) (fun _ h9 => h9) rfl (by decide +kernel) rfl rfl (Nat.le_of_ble_eq_true rfl) d_Row_skipToByte_11 (fun H locs hP hD hS => ?_)
  have hP : va_P (dC, dI) vwCl [(a0, .inr (1, [.ref a0_bytes, .int v0_count, .int ((v0_place + (7 : Int32)) &&& (-8 : Int32))]))] H := hP
  have hD : va_D A [(a0, .inr (1, [.ref a0_bytes, .int v0_count, .int ((v0_place + (7 : Int32)) &&& (-8 : Int32))]))] := hD
  obtain rfl := Option.some.inj h
  exact W.vret hx hb hr (fun t ht hW => ⟨⟨(), rfl, trivial, by rw [ht]; exact hP.sub [0] rfl, hD.sub [0] (by decide) rfl⟩, hS.F ht⟩) hS.2.2 d_Row_skipToByte_14
set_option maxHeartbeats 4000000 in
set_option maxRecDepth 100000 in
theorem c_Row_skipToByte (l : Launch) (dC : Nat → ClassId) (dI : Nat → Nat → Nat) (cI cB cZ : ClassId) (tS : Nat) (a0 : Nat) (a0_bytes : Nat) (sz : Nat) (N : Nat) (v0_count : Int32) (v0_place : Int32) (x : Int32) (hf : (g_Row_skipToByte_0 v0_place) = some x) : Met l y_Row_skipToByte w_Row_skipToByteS rm_Row_skipToByte (gz_Pc [.ref a0] (dC, dI) vwCl [(cI, .int), (cB, .byte), (cZ, .boolean)] tS [(a0, .inr (1, [.ref a0_bytes, .int v0_count, .int v0_place]))] sz) (va_Qv (fun (_ : Unit) => True) (gz_B (dC, dI) vwCl (va_A [(a0, .inr (1, [.ref a0_bytes, .int v0_count, .int v0_place]))] sz) (e_Row_skipToByte dC dI cI cB cZ a0 a0_bytes N v0_count x)) (va_A [(a0, .inr (1, [.ref a0_bytes, .int v0_count, .int v0_place]))] sz)) 0 0 (va_A [(a0, .inr (1, [.ref a0_bytes, .int v0_count, .int v0_place]))] sz) := by
  refine Met.ofW (cc := b_Row_skipToByte) (maxL := 1) (ret := none) (by decide) rfl ?_
  intro p e s m args below meth c s₁ B hml hv
  obtain ⟨rfl, hsz, hP, hK, hD0, hE⟩ := hv
  subst hsz
  have hl := lv_entry ([.ref a0]) (n := 1) (Nat.le_of_ble_eq_true rfl)
  rw [lg_entry_eq]
  generalize (lg_sl ([.ref a0]) ++ List.replicate (1 - (lg_sl ([.ref a0])).length) Slot.unset).toArray = ls at hl ⊢
  have C0 : gz_C p s m _ meth c b_Row_skipToByte 1 none R_Row "skipToByte" gz_W _ (dC, dI) vwCl [(cI, .int), (cB, .byte), (cZ, .boolean)] tS := ⟨B.exec, B.bytes, B.returns, hml, findClass_of_methodNamed B.named, (name_of_methodNamed B.named B.method).1, fun w h => atoms_spec (ws := w_Row_skipToByteS) B.pre w (List.mem_cons_of_mem _ h), B.notSynchronized, fun q h => Or.inr h, hK, hE⟩
  exact w_Row_skipToByte_0 C0 a0 a0_bytes N v0_count x v0_place hf _ _ _ hP (hD0.self (sz := s.heap.size)) va_S.rf (lv_sub hl [0] rfl)
abbrev rm_Row_check : Room := { frames := 1, cells := 0, slots := 0, locals := 21 }
abbrev e_Row_check (dC : Nat → ClassId) (dI : Nat → Nat → Nat) (cI cB cZ : ClassId) (a0 : Nat) (a0_bytes : Nat) (N : Nat) (v0_count : Int32) (v0_place : Int32) (n0_bytes : Nat) (f0_bytes : Nat → Int32) (x : Int32) (u : Unit) : va_W := [(a0, .inr (1, [.ref a0_bytes, .int v0_count, .int v0_place])), (a0_bytes, .inl (cB, n0_bytes, .inl f0_bytes))]
abbrev q_Row_check (below : List Frame) (args : Array Value) (s : State) (dC : Nat → ClassId) (dI : Nat → Nat → Nat) (cI cB cZ : ClassId) (A : Nat → Prop) (a0 : Nat) (a0_bytes : Nat) (N : Nat) (v0_count : Int32) (v0_place : Int32) (n0_bytes : Nat) (f0_bytes : Nat → Int32) (x : Int32) : State → Prop := MQ below (va_Qi (fun r (_ : Unit) => r = x) (gz_B (dC, dI) vwCl A (e_Row_check dC dI cI cB cZ a0 a0_bytes N v0_count v0_place n0_bytes f0_bytes x)) A) args s 0 0 A
def t_Row_check_L1 (p : Program) (l : Launch) (e : Env) (s : State) (m : MethodId) (args : Array Value) (below : List Frame) (meth : Method) (c : Code) (dC : Nat → ClassId) (dI : Nat → Nat → Nat) (cI cB cZ : ClassId) (tS : Nat) (A : Nat → Prop) (a0 : Nat) (a0_bytes : Nat) (N : Nat) (v0_count : Int32) (v0_place : Int32) (n0_bytes : Nat) (f0_bytes : Nat → Int32) (x : Int32) (F : Int32 → Int32 → Int32 → Option (Int32)) : Prop :=
  ∀ (x1 : Int32) (x2 : Int32) (x3 : Int32), F x1 x2 x3 = some x → ∀ (H : Heap) (locs : List Loc) (ls : Array Slot), va_P (dC, dI) vwCl [(a0, .inr (1, [.ref a0_bytes, .int v0_count, .int v0_place])), (a0_bytes, .inl (cB, n0_bytes, .inl f0_bytes))] H → va_D A [(a0, .inr (1, [.ref a0_bytes, .int v0_count, .int v0_place])), (a0_bytes, .inl (cB, n0_bytes, .inl f0_bytes))] → va_S A s.heap H locs → lv_has ls 4 [(0, .ref a0), (1, .int x1), (2, .int x2), (3, .int x3)] → W p l e rm_Row_check s m args below meth c H locs 0 0 (q_Row_check below args s dC dI cI cB cZ A a0 a0_bytes N v0_count v0_place n0_bytes f0_bytes x) (F0 m 6 ls [])
def t_Row_check_0 (p : Program) (l : Launch) (e : Env) (s : State) (m : MethodId) (args : Array Value) (below : List Frame) (meth : Method) (c : Code) (dC : Nat → ClassId) (dI : Nat → Nat → Nat) (cI cB cZ : ClassId) (tS : Nat) (A : Nat → Prop) (a0 : Nat) (a0_bytes : Nat) (N : Nat) (v0_count : Int32) (v0_place : Int32) (n0_bytes : Nat) (f0_bytes : Nat → Int32) (x : Int32) (F : Option (Int32)) : Prop :=
  F = some x → ∀ (H : Heap) (locs : List Loc) (ls : Array Slot), va_P (dC, dI) vwCl [(a0, .inr (1, [.ref a0_bytes, .int v0_count, .int v0_place])), (a0_bytes, .inl (cB, n0_bytes, .inl f0_bytes))] H → va_D A [(a0, .inr (1, [.ref a0_bytes, .int v0_count, .int v0_place])), (a0_bytes, .inl (cB, n0_bytes, .inl f0_bytes))] → va_S A s.heap H locs → lv_has ls 4 [(0, .ref a0)] → W p l e rm_Row_check s m args below meth c H locs 0 0 (q_Row_check below args s dC dI cI cB cZ A a0 a0_bytes N v0_count v0_place n0_bytes f0_bytes x) (F0 m 0 ls [])
def g_Row_check_L1 (v0_count : Int32) (n0_bytes : Nat) (f0_bytes : Nat → Int32) : Nat → Int32 → Int32 → Int32 → Option (Int32)
  | 0, _, _, _ => none
  | n + 1, x1, x2, x3 => (if v0_count ≤ x3 then some ((x2 <<< ((16 : Int32) &&& 31)) ||| x1) else (Option.bind (g_Row_byteAt_0 v0_count n0_bytes f0_bytes x3) (fun r2 => (g_Row_check_L1 v0_count n0_bytes f0_bytes n ((x1 + r2) - (x1 + r2) / (65521 : Int32) * (65521 : Int32)) ((x2 + ((x1 + r2) - (x1 + r2) / (65521 : Int32) * (65521 : Int32))) - (x2 + ((x1 + r2) - (x1 + r2) / (65521 : Int32) * (65521 : Int32))) / (65521 : Int32) * (65521 : Int32)) (x3 + (1 : Int32))))))
set_option maxHeartbeats 4000000 in
set_option maxRecDepth 100000 in
theorem w_Row_check_L1 {p : Program} {l : Launch} {e : Env} {s : State} {m : MethodId} {args : Array Value} {below : List Frame} {meth : Method} {c : Code} {dC : Nat → ClassId} {dI : Nat → Nat → Nat} {cI cB cZ : ClassId} {tS : Nat} {A : Nat → Prop} (C0 : gz_C p s m args meth c b_Row_check 4 (some .int) R_Row "check" gz_W A (dC, dI) vwCl [(cI, .int), (cB, .byte), (cZ, .boolean)] tS) (a0 : Nat) (a0_bytes : Nat) (N : Nat) (v0_count : Int32) (v0_place : Int32) (n0_bytes : Nat) (f0_bytes : Nat → Int32) (x : Int32) : ∀ n : Nat, t_Row_check_L1 p l e s m args below meth c dC dI cI cB cZ tS A a0 a0_bytes N v0_count v0_place n0_bytes f0_bytes x (g_Row_check_L1 v0_count n0_bytes f0_bytes n) := by
  obtain ⟨hx, hb, hr, hml, hown, hin0, hts, hlocks, hA, hK, hE⟩ := id C0
  intro n
  induction n with
  | zero =>
    intro x1 x2 x3 h
    cases h
  | succ n ih =>
    intro x1 x2 x3 h H locs ls hP hD hS hl
    rw [g_Row_check_L1] at h
    refine lv_iload_n hx hb d_Row_check_6 rfl (lv_at hl 3 rfl) ?_
    refine lv_aload_n hx hb d_Row_check_7 rfl (lv_at hl 0 rfl) ?_
    refine va_get (D := (dC, dI)) (ci := 1) (v := .int v0_count) (C := R_Row) (T := F_Row) (N := 3) hx hb hts in_Row hown hK hP 0 rfl rfl 1 (by decide) (hts _ kw_9) (fun _ h9 => h9) rfl d_Row_check_8 ?_
    refine lv_icmp_ge (tgt := 38) hx hb d_Row_check_11 (by decide) (fun c1 => ?_) (fun c1 => ?_)
    · have h := gz_t h c1
      refine lv_iload_n hx hb d_Row_check_38 rfl (lv_at hl 2 rfl) ?_
      refine lv_bipush (v := (16 : Int32)) hx hb d_Row_check_39 (by decide) ?_
      refine lv_ishl hx hb d_Row_check_41 ?_
      refine lv_iload_n hx hb d_Row_check_42 rfl (lv_at hl 1 rfl) ?_
      refine lv_ior hx hb d_Row_check_43 ?_
      obtain rfl := Option.some.inj h
      exact W.iret (v := (x2 <<< ((16 : Int32) &&& 31)) ||| x1) hx hb hr (fun t ht hW => ⟨⟨(x2 <<< ((16 : Int32) &&& 31)) ||| x1, (), rfl, rfl, by rw [ht]; exact hP.sub [0, 1] rfl, hD.sub [0, 1] (by decide) rfl⟩, hS.F ht⟩) hS.2.2 d_Row_check_44
    · have h := gz_f h c1
      refine lv_iload_n hx hb d_Row_check_14 rfl (lv_at hl 1 rfl) ?_
      refine lv_aload_n hx hb d_Row_check_15 rfl (lv_at hl 0 rfl) ?_
      refine lv_iload_n hx hb d_Row_check_16 rfl (lv_at hl 3 rfl) ?_
      obtain ⟨r2, hcr2, h⟩ := gz_b h
      refine gz_ci hP hD hS hA [0, 1] [] (wr := []) rfl rfl (by decide) (by decide) (va_runV (As := [.int x3]) (rest := [.int x1]) ⟨hx, hb, hml, hown, hts⟩ (c_Row_byteAt l dC dI cI cB cZ tS a0 a0_bytes H.size N v0_count v0_place n0_bytes f0_bytes x3 r2 hcr2) (cwV 1 hts (gz_gV kw_202 kw_158 kw_159 kw_5 kw_156) rfl rfl rfl (by decide +kernel) ⟨(Nat.le_of_ble_eq_true rfl), (Nat.le_of_ble_eq_true rfl)⟩) (gz_preV hK hE hP hD hS hA [0, 1] (by decide) rfl 0 1 rfl rfl) rfl rfl hl.1 rfl (lv_room (Nat.le_of_ble_eq_true rfl)) d_Row_check_17 ⟨(Nat.le_of_ble_eq_true rfl), (Nat.le_of_ble_eq_true rfl)⟩) (fun _ H locs hP hD hS => ?_)
      have hP : va_P (dC, dI) vwCl [(a0, .inr (1, [.ref a0_bytes, .int v0_count, .int v0_place])), (a0_bytes, .inl (cB, n0_bytes, .inl f0_bytes))] H := hP
      have hD : va_D A [(a0, .inr (1, [.ref a0_bytes, .int v0_count, .int v0_place])), (a0_bytes, .inl (cB, n0_bytes, .inl f0_bytes))] := hD
      refine lv_iadd hx hb d_Row_check_20 ?_
      refine lv_ldc (v := (65521 : Int32)) hx hb hown (hts _ kw_203) d_Row_check_21 ?_
      refine lv_irem hx hb d_Row_check_23 (by decide) ?_
      refine lv_istore_n (lv' := [(1, .int ((x1 + r2) - (x1 + r2) / (65521 : Int32) * (65521 : Int32))), (0, .ref a0), (2, .int x2), (3, .int x3)]) hx hb d_Row_check_24 rfl hl (by decide) rfl (fun ls hl => ?_)
      refine lv_iload_n hx hb d_Row_check_25 rfl (lv_at hl 2 rfl) ?_
      refine lv_iload_n hx hb d_Row_check_26 rfl (lv_at hl 0 rfl) ?_
      refine lv_iadd hx hb d_Row_check_27 ?_
      refine lv_ldc (v := (65521 : Int32)) hx hb hown (hts _ kw_203) d_Row_check_28 ?_
      refine lv_irem hx hb d_Row_check_30 (by decide) ?_
      refine lv_istore_n (lv' := [(2, .int ((x2 + ((x1 + r2) - (x1 + r2) / (65521 : Int32) * (65521 : Int32))) - (x2 + ((x1 + r2) - (x1 + r2) / (65521 : Int32) * (65521 : Int32))) / (65521 : Int32) * (65521 : Int32))), (1, .int ((x1 + r2) - (x1 + r2) / (65521 : Int32) * (65521 : Int32))), (0, .ref a0), (3, .int x3)]) hx hb d_Row_check_31 rfl hl (by decide) rfl (fun ls hl => ?_)
      refine lv_iinc (v := x3 + (1 : Int32)) (lv' := [(3, .int (x3 + (1 : Int32))), (2, .int ((x2 + ((x1 + r2) - (x1 + r2) / (65521 : Int32) * (65521 : Int32))) - (x2 + ((x1 + r2) - (x1 + r2) / (65521 : Int32) * (65521 : Int32))) / (65521 : Int32) * (65521 : Int32))), (1, .int ((x1 + r2) - (x1 + r2) / (65521 : Int32) * (65521 : Int32))), (0, .ref a0)]) hx hb d_Row_check_32 hl (k := 3) rfl rfl (by decide) rfl (fun ls hl => ?_)
      refine lv_goto (tgt := 6) hx hb d_Row_check_35 (by decide) ?_
      exact ih ((x1 + r2) - (x1 + r2) / (65521 : Int32) * (65521 : Int32)) ((x2 + ((x1 + r2) - (x1 + r2) / (65521 : Int32) * (65521 : Int32))) - (x2 + ((x1 + r2) - (x1 + r2) / (65521 : Int32) * (65521 : Int32))) / (65521 : Int32) * (65521 : Int32)) (x3 + (1 : Int32)) h _ _ _ (hP.sub [0, 1] rfl) (hD.sub [0, 1] (by decide) rfl) hS (lv_sub hl [3, 2, 1, 0] rfl)
def g_Row_check_0 (N : Nat) (v0_count : Int32) (n0_bytes : Nat) (f0_bytes : Nat → Int32) : Option (Int32) := (g_Row_check_L1 v0_count n0_bytes f0_bytes N (1 : Int32) (0 : Int32) (0 : Int32))
set_option maxHeartbeats 4000000 in
set_option maxRecDepth 100000 in
theorem w_Row_check_0 {p : Program} {l : Launch} {e : Env} {s : State} {m : MethodId} {args : Array Value} {below : List Frame} {meth : Method} {c : Code} {dC : Nat → ClassId} {dI : Nat → Nat → Nat} {cI cB cZ : ClassId} {tS : Nat} {A : Nat → Prop} (C0 : gz_C p s m args meth c b_Row_check 4 (some .int) R_Row "check" gz_W A (dC, dI) vwCl [(cI, .int), (cB, .byte), (cZ, .boolean)] tS) (a0 : Nat) (a0_bytes : Nat) (N : Nat) (v0_count : Int32) (v0_place : Int32) (n0_bytes : Nat) (f0_bytes : Nat → Int32) (x : Int32) : t_Row_check_0 p l e s m args below meth c dC dI cI cB cZ tS A a0 a0_bytes N v0_count v0_place n0_bytes f0_bytes x (g_Row_check_0 N v0_count n0_bytes f0_bytes) := by
  obtain ⟨hx, hb, hr, hml, hown, hin0, hts, hlocks, hA, hK, hE⟩ := id C0
  intro  h H locs ls hP hD hS hl
  rw [g_Row_check_0] at h
  refine lv_iconst (v := (1 : Int32)) hx hb d_Row_check_0 (by decide) ?_
  refine lv_istore_n (lv' := [(1, .int (1 : Int32)), (0, .ref a0)]) hx hb d_Row_check_1 rfl hl (by decide) rfl (fun ls hl => ?_)
  refine lv_iconst (v := (0 : Int32)) hx hb d_Row_check_2 (by decide) ?_
  refine lv_istore_n (lv' := [(2, .int (0 : Int32)), (1, .int (1 : Int32)), (0, .ref a0)]) hx hb d_Row_check_3 rfl hl (by decide) rfl (fun ls hl => ?_)
  refine lv_iconst (v := (0 : Int32)) hx hb d_Row_check_4 (by decide) ?_
  refine lv_istore_n (lv' := [(3, .int (0 : Int32)), (2, .int (0 : Int32)), (1, .int (1 : Int32)), (0, .ref a0)]) hx hb d_Row_check_5 rfl hl (by decide) rfl (fun ls hl => ?_)
  exact (w_Row_check_L1 C0 a0 a0_bytes N v0_count v0_place n0_bytes f0_bytes x N) (1 : Int32) (0 : Int32) (0 : Int32) h _ _ _ (hP.sub [0, 1] rfl) (hD.sub [0, 1] (by decide) rfl) hS (lv_sub hl [3, 2, 1, 0] rfl)
set_option maxHeartbeats 4000000 in
set_option maxRecDepth 100000 in
theorem c_Row_check (l : Launch) (dC : Nat → ClassId) (dI : Nat → Nat → Nat) (cI cB cZ : ClassId) (tS : Nat) (a0 : Nat) (a0_bytes : Nat) (sz : Nat) (N : Nat) (v0_count : Int32) (v0_place : Int32) (n0_bytes : Nat) (f0_bytes : Nat → Int32) (x : Int32) (hf : (g_Row_check_0 N v0_count n0_bytes f0_bytes) = some x) : Met l y_Row_check w_Row_checkS rm_Row_check (gz_Pc [.ref a0] (dC, dI) vwCl [(cI, .int), (cB, .byte), (cZ, .boolean)] tS [(a0, .inr (1, [.ref a0_bytes, .int v0_count, .int v0_place])), (a0_bytes, .inl (cB, n0_bytes, .inl f0_bytes))] sz) (va_Qi (fun r (_ : Unit) => r = x) (gz_B (dC, dI) vwCl (va_A [(a0, .inr (1, [.ref a0_bytes, .int v0_count, .int v0_place])), (a0_bytes, .inl (cB, n0_bytes, .inl f0_bytes))] sz) (e_Row_check dC dI cI cB cZ a0 a0_bytes N v0_count v0_place n0_bytes f0_bytes x)) (va_A [(a0, .inr (1, [.ref a0_bytes, .int v0_count, .int v0_place])), (a0_bytes, .inl (cB, n0_bytes, .inl f0_bytes))] sz)) 0 0 (va_A [(a0, .inr (1, [.ref a0_bytes, .int v0_count, .int v0_place])), (a0_bytes, .inl (cB, n0_bytes, .inl f0_bytes))] sz) := by
  refine Met.ofW (cc := b_Row_check) (maxL := 4) (ret := (some .int)) (by decide) rfl ?_
  intro p e s m args below meth c s₁ B hml hv
  obtain ⟨rfl, hsz, hP, hK, hD0, hE⟩ := hv
  subst hsz
  have hl := lv_entry ([.ref a0]) (n := 4) (Nat.le_of_ble_eq_true rfl)
  rw [lg_entry_eq]
  generalize (lg_sl ([.ref a0]) ++ List.replicate (4 - (lg_sl ([.ref a0])).length) Slot.unset).toArray = ls at hl ⊢
  have C0 : gz_C p s m _ meth c b_Row_check 4 (some .int) R_Row "check" gz_W _ (dC, dI) vwCl [(cI, .int), (cB, .byte), (cZ, .boolean)] tS := ⟨B.exec, B.bytes, B.returns, hml, findClass_of_methodNamed B.named, (name_of_methodNamed B.named B.method).1, fun w h => atoms_spec (ws := w_Row_checkS) B.pre w (List.mem_cons_of_mem _ h), B.notSynchronized, fun q h => Or.inr h, hK, hE⟩
  exact w_Row_check_0 C0 a0 a0_bytes N v0_count v0_place n0_bytes f0_bytes x  hf _ _ _ hP (hD0.self (sz := s.heap.size)) va_S.rf (lv_sub hl [0] rfl)
abbrev rm_Found_start : Room := { frames := 1, cells := 0, slots := 0, locals := 23 }
abbrev e_Found_start (dC : Nat → ClassId) (dI : Nat → Nat → Nat) (cI cB cZ : ClassId) (a0 : Nat) (a0_items : Nat) (a0_symbolCounts : Nat) (a0_distanceCounts : Nat) (N : Nat) (n0_symbolCounts : Nat) (n0_distanceCounts : Nat) (x : Int32 × (Nat → Int32) × (Nat → Int32)) (u : Unit) : va_W := [(a0, .inr (6, [.ref a0_items, .int x.1, .ref a0_symbolCounts, .ref a0_distanceCounts])), (a0_symbolCounts, .inl (cI, n0_symbolCounts, .inl x.2.1)), (a0_distanceCounts, .inl (cI, n0_distanceCounts, .inl x.2.2))]
abbrev q_Found_start (below : List Frame) (args : Array Value) (s : State) (dC : Nat → ClassId) (dI : Nat → Nat → Nat) (cI cB cZ : ClassId) (A : Nat → Prop) (a0 : Nat) (a0_items : Nat) (a0_symbolCounts : Nat) (a0_distanceCounts : Nat) (N : Nat) (n0_symbolCounts : Nat) (n0_distanceCounts : Nat) (x : Int32 × (Nat → Int32) × (Nat → Int32)) : State → Prop := MQ below (va_Qv (fun (_ : Unit) => True) (gz_B (dC, dI) vwCl A (e_Found_start dC dI cI cB cZ a0 a0_items a0_symbolCounts a0_distanceCounts N n0_symbolCounts n0_distanceCounts x)) A) args s 0 0 A
def t_Found_start_0 (p : Program) (l : Launch) (e : Env) (s : State) (m : MethodId) (args : Array Value) (below : List Frame) (meth : Method) (c : Code) (dC : Nat → ClassId) (dI : Nat → Nat → Nat) (cI cB cZ : ClassId) (tS : Nat) (A : Nat → Prop) (a0 : Nat) (a0_items : Nat) (a0_symbolCounts : Nat) (a0_distanceCounts : Nat) (N : Nat) (n0_symbolCounts : Nat) (n0_distanceCounts : Nat) (x : Int32 × (Nat → Int32) × (Nat → Int32)) (F : Int32 → (Nat → Int32) → (Nat → Int32) → Option (Int32 × (Nat → Int32) × (Nat → Int32))) : Prop :=
  ∀ (v0_count : Int32) (f0_symbolCounts : Nat → Int32) (f0_distanceCounts : Nat → Int32), F v0_count f0_symbolCounts f0_distanceCounts = some x → ∀ (H : Heap) (locs : List Loc) (ls : Array Slot), va_P (dC, dI) vwCl [(a0, .inr (6, [.ref a0_items, .int v0_count, .ref a0_symbolCounts, .ref a0_distanceCounts])), (a0_symbolCounts, .inl (cI, n0_symbolCounts, .inl f0_symbolCounts)), (a0_distanceCounts, .inl (cI, n0_distanceCounts, .inl f0_distanceCounts))] H → va_D A [(a0, .inr (6, [.ref a0_items, .int v0_count, .ref a0_symbolCounts, .ref a0_distanceCounts])), (a0_symbolCounts, .inl (cI, n0_symbolCounts, .inl f0_symbolCounts)), (a0_distanceCounts, .inl (cI, n0_distanceCounts, .inl f0_distanceCounts))] → va_S A s.heap H locs → lv_has ls 1 [(0, .ref a0)] → W p l e rm_Found_start s m args below meth c H locs 0 0 (q_Found_start below args s dC dI cI cB cZ A a0 a0_items a0_symbolCounts a0_distanceCounts N n0_symbolCounts n0_distanceCounts x) (F0 m 0 ls [])
def g_Found_start_0 (N : Nat) (n0_symbolCounts : Nat) (n0_distanceCounts : Nat) (v0_count : Int32) (f0_symbolCounts : Nat → Int32) (f0_distanceCounts : Nat → Int32) : Option (Int32 × (Nat → Int32) × (Nat → Int32)) := (Option.bind (g_Ar_fill2_0 N n0_symbolCounts (0 : Int32) f0_symbolCounts) (fun r1 => (Option.bind (g_Ar_fill2_0 N n0_distanceCounts (0 : Int32) f0_distanceCounts) (fun r2 => (if (256 : Int32) < 0 ∨ n0_symbolCounts ≤ (256 : Int32).toNatClampNeg then none else some ((0 : Int32), upd r1 (256 : Int32).toNatClampNeg (1 : Int32), r2))))))
set_option maxHeartbeats 4000000 in
set_option maxRecDepth 100000 in
theorem w_Found_start_0 {p : Program} {l : Launch} {e : Env} {s : State} {m : MethodId} {args : Array Value} {below : List Frame} {meth : Method} {c : Code} {dC : Nat → ClassId} {dI : Nat → Nat → Nat} {cI cB cZ : ClassId} {tS : Nat} {A : Nat → Prop} (C0 : gz_C p s m args meth c b_Found_start 1 none R_Found "start" gz_W A (dC, dI) vwCl [(cI, .int), (cB, .byte), (cZ, .boolean)] tS) (a0 : Nat) (a0_items : Nat) (a0_symbolCounts : Nat) (a0_distanceCounts : Nat) (N : Nat) (n0_symbolCounts : Nat) (n0_distanceCounts : Nat) (x : Int32 × (Nat → Int32) × (Nat → Int32)) : t_Found_start_0 p l e s m args below meth c dC dI cI cB cZ tS A a0 a0_items a0_symbolCounts a0_distanceCounts N n0_symbolCounts n0_distanceCounts x (g_Found_start_0 N n0_symbolCounts n0_distanceCounts) := by
  obtain ⟨hx, hb, hr, hml, hown, hin0, hts, hlocks, hA, hK, hE⟩ := id C0
  intro v0_count f0_symbolCounts f0_distanceCounts h H locs ls hP hD hS hl
  rw [g_Found_start_0] at h
  refine lv_aload_n hx hb d_Found_start_0 rfl (lv_at hl 0 rfl) ?_
  refine lv_iconst (v := (0 : Int32)) hx hb d_Found_start_1 (by decide) ?_
  refine va_put (D := (dC, dI)) (ci := 6) (v := .int (0 : Int32)) (ty := .int) (C := R_Found) (T := F_Found) (N := 4) hx hb hts in_Found t_Found t_Found_ok n_Found hown hK hP hD hS 0 rfl rfl 1 (by decide) (hts _ kw_48) (fun _ h9 => h9) rfl (by decide +kernel) rfl rfl (Nat.le_of_ble_eq_true rfl) d_Found_start_2 (fun H locs hP hD hS => ?_)
  have hP : va_P (dC, dI) vwCl [(a0, .inr (6, [.ref a0_items, .int (0 : Int32), .ref a0_symbolCounts, .ref a0_distanceCounts])), (a0_symbolCounts, .inl (cI, n0_symbolCounts, .inl f0_symbolCounts)), (a0_distanceCounts, .inl (cI, n0_distanceCounts, .inl f0_distanceCounts))] H := hP
  have hD : va_D A [(a0, .inr (6, [.ref a0_items, .int (0 : Int32), .ref a0_symbolCounts, .ref a0_distanceCounts])), (a0_symbolCounts, .inl (cI, n0_symbolCounts, .inl f0_symbolCounts)), (a0_distanceCounts, .inl (cI, n0_distanceCounts, .inl f0_distanceCounts))] := hD
  refine lv_aload_n hx hb d_Found_start_5 rfl (lv_at hl 0 rfl) ?_
  refine va_get (D := (dC, dI)) (ci := 6) (v := .ref a0_symbolCounts) (C := R_Found) (T := F_Found) (N := 4) hx hb hts in_Found hown hK hP 0 rfl rfl 2 (by decide) (hts _ kw_49) (fun _ h9 => h9) rfl d_Found_start_6 ?_
  refine lv_iconst (v := (0 : Int32)) hx hb d_Found_start_9 (by decide) ?_
  obtain ⟨r1, hcr1, h⟩ := gz_b h
  refine gz_cv hP hD hS hA [1] [0, 2] (wr := [(a0, .inr (6, [.ref a0_items, .int (0 : Int32), .ref a0_symbolCounts, .ref a0_distanceCounts])), (a0_distanceCounts, .inl (cI, n0_distanceCounts, .inl f0_distanceCounts))]) rfl rfl (by decide) (by decide) (va_runS (As := [.ref a0_symbolCounts, .int (0 : Int32)]) (rest := []) ⟨hx, hb, hml, hown, hts⟩ (c_Ar_fill2 l dC dI cI cB cZ tS a0_symbolCounts H.size N n0_symbolCounts (0 : Int32) f0_symbolCounts r1 hcr1) (va_cwS 2 hts (gz_gS kw_209 kw_132 kw_130 kw_129) rfl rfl rfl (by decide +kernel) ⟨(Nat.le_of_ble_eq_true rfl), (Nat.le_of_ble_eq_true rfl)⟩) (gz_preS hK hE hP hD hS hA [1] (by decide) rfl) rfl rfl hl.1 rfl (lv_room (Nat.le_of_ble_eq_true rfl)) d_Found_start_10 ⟨(Nat.le_of_ble_eq_true rfl), (Nat.le_of_ble_eq_true rfl)⟩) (fun _ H locs hP hD hS => ?_)
  have hP : va_P (dC, dI) vwCl [(a0, .inr (6, [.ref a0_items, .int (0 : Int32), .ref a0_symbolCounts, .ref a0_distanceCounts])), (a0_distanceCounts, .inl (cI, n0_distanceCounts, .inl f0_distanceCounts)), (a0_symbolCounts, .inl (cI, n0_symbolCounts, .inl r1))] H := hP
  have hD : va_D A [(a0, .inr (6, [.ref a0_items, .int (0 : Int32), .ref a0_symbolCounts, .ref a0_distanceCounts])), (a0_distanceCounts, .inl (cI, n0_distanceCounts, .inl f0_distanceCounts)), (a0_symbolCounts, .inl (cI, n0_symbolCounts, .inl r1))] := hD
  refine lv_aload_n hx hb d_Found_start_13 rfl (lv_at hl 0 rfl) ?_
  refine va_get (D := (dC, dI)) (ci := 6) (v := .ref a0_distanceCounts) (C := R_Found) (T := F_Found) (N := 4) hx hb hts in_Found hown hK hP 0 rfl rfl 3 (by decide) (hts _ kw_50) (fun _ h9 => h9) rfl d_Found_start_14 ?_
  refine lv_iconst (v := (0 : Int32)) hx hb d_Found_start_17 (by decide) ?_
  obtain ⟨r2, hcr2, h⟩ := gz_b h
  refine gz_cv hP hD hS hA [1] [0, 2] (wr := [(a0, .inr (6, [.ref a0_items, .int (0 : Int32), .ref a0_symbolCounts, .ref a0_distanceCounts])), (a0_symbolCounts, .inl (cI, n0_symbolCounts, .inl r1))]) rfl rfl (by decide) (by decide) (va_runS (As := [.ref a0_distanceCounts, .int (0 : Int32)]) (rest := []) ⟨hx, hb, hml, hown, hts⟩ (c_Ar_fill2 l dC dI cI cB cZ tS a0_distanceCounts H.size N n0_distanceCounts (0 : Int32) f0_distanceCounts r2 hcr2) (va_cwS 2 hts (gz_gS kw_209 kw_132 kw_130 kw_129) rfl rfl rfl (by decide +kernel) ⟨(Nat.le_of_ble_eq_true rfl), (Nat.le_of_ble_eq_true rfl)⟩) (gz_preS hK hE hP hD hS hA [1] (by decide) rfl) rfl rfl hl.1 rfl (lv_room (Nat.le_of_ble_eq_true rfl)) d_Found_start_18 ⟨(Nat.le_of_ble_eq_true rfl), (Nat.le_of_ble_eq_true rfl)⟩) (fun _ H locs hP hD hS => ?_)
  have hP : va_P (dC, dI) vwCl [(a0, .inr (6, [.ref a0_items, .int (0 : Int32), .ref a0_symbolCounts, .ref a0_distanceCounts])), (a0_symbolCounts, .inl (cI, n0_symbolCounts, .inl r1)), (a0_distanceCounts, .inl (cI, n0_distanceCounts, .inl r2))] H := hP
  have hD : va_D A [(a0, .inr (6, [.ref a0_items, .int (0 : Int32), .ref a0_symbolCounts, .ref a0_distanceCounts])), (a0_symbolCounts, .inl (cI, n0_symbolCounts, .inl r1)), (a0_distanceCounts, .inl (cI, n0_distanceCounts, .inl r2))] := hD
  refine lv_aload_n hx hb d_Found_start_21 rfl (lv_at hl 0 rfl) ?_
  refine va_get (D := (dC, dI)) (ci := 6) (v := .ref a0_symbolCounts) (C := R_Found) (T := F_Found) (N := 4) hx hb hts in_Found hown hK hP 0 rfl rfl 2 (by decide) (hts _ kw_49) (fun _ h9 => h9) rfl d_Found_start_22 ?_
  refine lv_sipush (v := (256 : Int32)) hx hb d_Found_start_25 (by decide) ?_
  refine lv_iconst (v := (1 : Int32)) hx hb d_Found_start_28 (by decide) ?_
  obtain ⟨hi3, h⟩ := gz_n h
  refine va_iast hx hb hK hP hD hS 1 0 rfl rfl hi3 d_Found_start_29 (fun H locs hP hD hS => ?_)
  have hP : va_P (dC, dI) vwCl [(a0, .inr (6, [.ref a0_items, .int (0 : Int32), .ref a0_symbolCounts, .ref a0_distanceCounts])), (a0_symbolCounts, .inl (cI, n0_symbolCounts, .inl (upd r1 (256 : Int32).toNatClampNeg (1 : Int32)))), (a0_distanceCounts, .inl (cI, n0_distanceCounts, .inl r2))] H := hP
  have hD : va_D A [(a0, .inr (6, [.ref a0_items, .int (0 : Int32), .ref a0_symbolCounts, .ref a0_distanceCounts])), (a0_symbolCounts, .inl (cI, n0_symbolCounts, .inl (upd r1 (256 : Int32).toNatClampNeg (1 : Int32)))), (a0_distanceCounts, .inl (cI, n0_distanceCounts, .inl r2))] := hD
  obtain rfl := Option.some.inj h
  exact W.vret hx hb hr (fun t ht hW => ⟨⟨(), rfl, trivial, by rw [ht]; exact hP.sub [0, 1, 2] rfl, hD.sub [0, 1, 2] (by decide) rfl⟩, hS.F ht⟩) hS.2.2 d_Found_start_30
set_option maxHeartbeats 4000000 in
set_option maxRecDepth 100000 in
theorem c_Found_start (l : Launch) (dC : Nat → ClassId) (dI : Nat → Nat → Nat) (cI cB cZ : ClassId) (tS : Nat) (a0 : Nat) (a0_items : Nat) (a0_symbolCounts : Nat) (a0_distanceCounts : Nat) (sz : Nat) (N : Nat) (n0_symbolCounts : Nat) (n0_distanceCounts : Nat) (v0_count : Int32) (f0_symbolCounts : Nat → Int32) (f0_distanceCounts : Nat → Int32) (x : Int32 × (Nat → Int32) × (Nat → Int32)) (hf : (g_Found_start_0 N n0_symbolCounts n0_distanceCounts v0_count f0_symbolCounts f0_distanceCounts) = some x) : Met l y_Found_start w_Found_startS rm_Found_start (gz_Pc [.ref a0] (dC, dI) vwCl [(cI, .int), (cB, .byte), (cZ, .boolean)] tS [(a0, .inr (6, [.ref a0_items, .int v0_count, .ref a0_symbolCounts, .ref a0_distanceCounts])), (a0_symbolCounts, .inl (cI, n0_symbolCounts, .inl f0_symbolCounts)), (a0_distanceCounts, .inl (cI, n0_distanceCounts, .inl f0_distanceCounts))] sz) (va_Qv (fun (_ : Unit) => True) (gz_B (dC, dI) vwCl (va_A [(a0, .inr (6, [.ref a0_items, .int v0_count, .ref a0_symbolCounts, .ref a0_distanceCounts])), (a0_symbolCounts, .inl (cI, n0_symbolCounts, .inl f0_symbolCounts)), (a0_distanceCounts, .inl (cI, n0_distanceCounts, .inl f0_distanceCounts))] sz) (e_Found_start dC dI cI cB cZ a0 a0_items a0_symbolCounts a0_distanceCounts N n0_symbolCounts n0_distanceCounts x)) (va_A [(a0, .inr (6, [.ref a0_items, .int v0_count, .ref a0_symbolCounts, .ref a0_distanceCounts])), (a0_symbolCounts, .inl (cI, n0_symbolCounts, .inl f0_symbolCounts)), (a0_distanceCounts, .inl (cI, n0_distanceCounts, .inl f0_distanceCounts))] sz)) 0 0 (va_A [(a0, .inr (6, [.ref a0_items, .int v0_count, .ref a0_symbolCounts, .ref a0_distanceCounts])), (a0_symbolCounts, .inl (cI, n0_symbolCounts, .inl f0_symbolCounts)), (a0_distanceCounts, .inl (cI, n0_distanceCounts, .inl f0_distanceCounts))] sz) := by
  refine Met.ofW (cc := b_Found_start) (maxL := 1) (ret := none) (by decide) rfl ?_
  intro p e s m args below meth c s₁ B hml hv
  obtain ⟨rfl, hsz, hP, hK, hD0, hE⟩ := hv
  subst hsz
  have hl := lv_entry ([.ref a0]) (n := 1) (Nat.le_of_ble_eq_true rfl)
  rw [lg_entry_eq]
  generalize (lg_sl ([.ref a0]) ++ List.replicate (1 - (lg_sl ([.ref a0])).length) Slot.unset).toArray = ls at hl ⊢
  have C0 : gz_C p s m _ meth c b_Found_start 1 none R_Found "start" gz_W _ (dC, dI) vwCl [(cI, .int), (cB, .byte), (cZ, .boolean)] tS := ⟨B.exec, B.bytes, B.returns, hml, findClass_of_methodNamed B.named, (name_of_methodNamed B.named B.method).1, fun w h => atoms_spec (ws := w_Found_startS) B.pre w (List.mem_cons_of_mem _ h), B.notSynchronized, fun q h => Or.inr h, hK, hE⟩
  exact w_Found_start_0 C0 a0 a0_items a0_symbolCounts a0_distanceCounts N n0_symbolCounts n0_distanceCounts x v0_count f0_symbolCounts f0_distanceCounts hf _ _ _ hP (hD0.self (sz := s.heap.size)) va_S.rf (lv_sub hl [0] rfl)
abbrev rm_Matcher_countSame : Room := { frames := 0, cells := 0, slots := 0, locals := 0 }
abbrev e_Matcher_countSame (dC : Nat → ClassId) (dI : Nat → Nat → Nat) (cI cB cZ : ClassId) (a0 : Nat) (a1 : Nat) (a1_bytes : Nat) (N : Nat) (v1_count : Int32) (v1_place : Int32) (n1_bytes : Nat) (f1_bytes : Nat → Int32) (x : Int32) (u : Unit) : va_W := [(a1, .inr (1, [.ref a1_bytes, .int v1_count, .int v1_place])), (a1_bytes, .inl (cB, n1_bytes, .inl f1_bytes))]
abbrev q_Matcher_countSame (below : List Frame) (args : Array Value) (s : State) (dC : Nat → ClassId) (dI : Nat → Nat → Nat) (cI cB cZ : ClassId) (A : Nat → Prop) (a0 : Nat) (a1 : Nat) (a1_bytes : Nat) (N : Nat) (v1_count : Int32) (v1_place : Int32) (n1_bytes : Nat) (f1_bytes : Nat → Int32) (x : Int32) : State → Prop := MQ below (va_Qi (fun r (_ : Unit) => r = x) (gz_B (dC, dI) vwCl A (e_Matcher_countSame dC dI cI cB cZ a0 a1 a1_bytes N v1_count v1_place n1_bytes f1_bytes x)) A) args s 0 0 A
def t_Matcher_countSame_L1 (p : Program) (l : Launch) (e : Env) (s : State) (m : MethodId) (args : Array Value) (below : List Frame) (meth : Method) (c : Code) (dC : Nat → ClassId) (dI : Nat → Nat → Nat) (cI cB cZ : ClassId) (tS : Nat) (A : Nat → Prop) (a0 : Nat) (a1 : Nat) (a1_bytes : Nat) (N : Nat) (v1_count : Int32) (v1_place : Int32) (n1_bytes : Nat) (f1_bytes : Nat → Int32) (x : Int32) (F : Int32 → Int32 → Int32 → Int32 → Option (Int32)) : Prop :=
  ∀ (x2 : Int32) (x3 : Int32) (x4 : Int32) (x5 : Int32), F x2 x3 x4 x5 = some x → ∀ (H : Heap) (locs : List Loc) (ls : Array Slot), va_P (dC, dI) vwCl [(a1, .inr (1, [.ref a1_bytes, .int v1_count, .int v1_place])), (a1_bytes, .inl (cB, n1_bytes, .inl f1_bytes))] H → va_D A [(a1, .inr (1, [.ref a1_bytes, .int v1_count, .int v1_place])), (a1_bytes, .inl (cB, n1_bytes, .inl f1_bytes))] → va_S A s.heap H locs → lv_has ls 6 [(1, .ref a1), (2, .int x2), (3, .int x3), (4, .int x4), (5, .int x5)] → W p l e rm_Matcher_countSame s m args below meth c H locs 0 0 (q_Matcher_countSame below args s dC dI cI cB cZ A a0 a1 a1_bytes N v1_count v1_place n1_bytes f1_bytes x) (F0 m 3 ls [])
def t_Matcher_countSame_0 (p : Program) (l : Launch) (e : Env) (s : State) (m : MethodId) (args : Array Value) (below : List Frame) (meth : Method) (c : Code) (dC : Nat → ClassId) (dI : Nat → Nat → Nat) (cI cB cZ : ClassId) (tS : Nat) (A : Nat → Prop) (a0 : Nat) (a1 : Nat) (a1_bytes : Nat) (N : Nat) (v1_count : Int32) (v1_place : Int32) (n1_bytes : Nat) (f1_bytes : Nat → Int32) (x : Int32) (F : Int32 → Int32 → Int32 → Option (Int32)) : Prop :=
  ∀ (x2 : Int32) (x3 : Int32) (x4 : Int32), F x2 x3 x4 = some x → ∀ (H : Heap) (locs : List Loc) (ls : Array Slot), va_P (dC, dI) vwCl [(a1, .inr (1, [.ref a1_bytes, .int v1_count, .int v1_place])), (a1_bytes, .inl (cB, n1_bytes, .inl f1_bytes))] H → va_D A [(a1, .inr (1, [.ref a1_bytes, .int v1_count, .int v1_place])), (a1_bytes, .inl (cB, n1_bytes, .inl f1_bytes))] → va_S A s.heap H locs → lv_has ls 6 [(1, .ref a1), (2, .int x2), (3, .int x3), (4, .int x4)] → W p l e rm_Matcher_countSame s m args below meth c H locs 0 0 (q_Matcher_countSame below args s dC dI cI cB cZ A a0 a1 a1_bytes N v1_count v1_place n1_bytes f1_bytes x) (F0 m 0 ls [])
def g_Matcher_countSame_L1 (n1_bytes : Nat) (f1_bytes : Nat → Int32) : Nat → Int32 → Int32 → Int32 → Int32 → Option (Int32)
  | 0, _, _, _, _ => none
  | n + 1, x2, x3, x4, x5 => (if x4 ≤ x5 then some (x4) else (if x2 + x5 < 0 ∨ n1_bytes ≤ (x2 + x5).toNatClampNeg then none else (if x3 + x5 < 0 ∨ n1_bytes ≤ (x3 + x5).toNatClampNeg then none else (if (f1_bytes (x2 + x5).toNatClampNeg) = (f1_bytes (x3 + x5).toNatClampNeg) then (g_Matcher_countSame_L1 n1_bytes f1_bytes n x2 x3 x4 (x5 + (1 : Int32))) else some (x5)))))
set_option maxHeartbeats 4000000 in
set_option maxRecDepth 100000 in
theorem w_Matcher_countSame_L1 {p : Program} {l : Launch} {e : Env} {s : State} {m : MethodId} {args : Array Value} {below : List Frame} {meth : Method} {c : Code} {dC : Nat → ClassId} {dI : Nat → Nat → Nat} {cI cB cZ : ClassId} {tS : Nat} {A : Nat → Prop} (C0 : gz_C p s m args meth c b_Matcher_countSame 6 (some .int) R_Matcher "countSame" gz_W A (dC, dI) vwCl [(cI, .int), (cB, .byte), (cZ, .boolean)] tS) (a0 : Nat) (a1 : Nat) (a1_bytes : Nat) (N : Nat) (v1_count : Int32) (v1_place : Int32) (n1_bytes : Nat) (f1_bytes : Nat → Int32) (x : Int32) : ∀ n : Nat, t_Matcher_countSame_L1 p l e s m args below meth c dC dI cI cB cZ tS A a0 a1 a1_bytes N v1_count v1_place n1_bytes f1_bytes x (g_Matcher_countSame_L1 n1_bytes f1_bytes n) := by
  obtain ⟨hx, hb, hr, hml, hown, hin0, hts, hlocks, hA, hK, hE⟩ := id C0
  intro n
  induction n with
  | zero =>
    intro x2 x3 x4 x5 h
    cases h
  | succ n ih =>
    intro x2 x3 x4 x5 h H locs ls hP hD hS hl
    rw [g_Matcher_countSame_L1] at h
    refine lv_iload hx hb d_Matcher_countSame_3 (lv_at hl 4 rfl) ?_
    refine lv_iload hx hb d_Matcher_countSame_5 (lv_at hl 3 rfl) ?_
    refine lv_icmp_ge (tgt := 40) hx hb d_Matcher_countSame_7 (by decide) (fun c1 => ?_) (fun c1 => ?_)
    · have h := gz_t h c1
      refine lv_iload hx hb d_Matcher_countSame_40 (lv_at hl 3 rfl) ?_
      obtain rfl := Option.some.inj h
      exact W.iret (v := x4) hx hb hr (fun t ht hW => ⟨⟨x4, (), rfl, rfl, by rw [ht]; exact hP.sub [0, 1] rfl, hD.sub [0, 1] (by decide) rfl⟩, hS.F ht⟩) hS.2.2 d_Matcher_countSame_42
    · have h := gz_f h c1
      refine lv_aload_n hx hb d_Matcher_countSame_10 rfl (lv_at hl 0 rfl) ?_
      refine va_get (D := (dC, dI)) (ci := 1) (v := .ref a1_bytes) (C := R_Row) (T := F_Row) (N := 3) hx hb hts in_Row hown hK hP 0 rfl rfl 0 (by decide) (hts _ kw_184) (fun _ h9 => h9) rfl d_Matcher_countSame_11 ?_
      refine lv_iload_n hx hb d_Matcher_countSame_14 rfl (lv_at hl 1 rfl) ?_
      refine lv_iload hx hb d_Matcher_countSame_15 (lv_at hl 4 rfl) ?_
      refine lv_iadd hx hb d_Matcher_countSame_17 ?_
      obtain ⟨hi2, h⟩ := gz_n h
      refine va_bald hx hb hK hP 1 1 rfl rfl hi2 d_Matcher_countSame_18 ?_
      refine lv_aload_n hx hb d_Matcher_countSame_19 rfl (lv_at hl 0 rfl) ?_
      refine va_get (D := (dC, dI)) (ci := 1) (v := .ref a1_bytes) (C := R_Row) (T := F_Row) (N := 3) hx hb hts in_Row hown hK hP 0 rfl rfl 0 (by decide) (hts _ kw_184) (fun _ h9 => h9) rfl d_Matcher_countSame_20 ?_
      refine lv_iload_n hx hb d_Matcher_countSame_23 rfl (lv_at hl 2 rfl) ?_
      refine lv_iload hx hb d_Matcher_countSame_24 (lv_at hl 4 rfl) ?_
      refine lv_iadd hx hb d_Matcher_countSame_26 ?_
      obtain ⟨hi3, h⟩ := gz_n h
      refine va_bald hx hb hK hP 1 1 rfl rfl hi3 d_Matcher_countSame_27 ?_
      refine lv_icmp_eq (tgt := 34) hx hb d_Matcher_countSame_28 (by decide) (fun c4 => ?_) (fun c4 => ?_)
      · have h := gz_t h c4
        refine lv_iinc (v := x5 + (1 : Int32)) (lv' := [(5, .int (x5 + (1 : Int32))), (1, .ref a1), (2, .int x2), (3, .int x3), (4, .int x4)]) hx hb d_Matcher_countSame_34 hl (k := 4) rfl rfl (by decide) rfl (fun ls hl => ?_)
        refine lv_goto (tgt := 3) hx hb d_Matcher_countSame_37 (by decide) ?_
        exact ih x2 x3 x4 (x5 + (1 : Int32)) h _ _ _ (hP.sub [0, 1] rfl) (hD.sub [0, 1] (by decide) rfl) hS (lv_sub hl [1, 2, 3, 4, 0] rfl)
      · have h := gz_f h c4
        refine lv_iload hx hb d_Matcher_countSame_31 (lv_at hl 4 rfl) ?_
        obtain rfl := Option.some.inj h
        exact W.iret (v := x5) hx hb hr (fun t ht hW => ⟨⟨x5, (), rfl, rfl, by rw [ht]; exact hP.sub [0, 1] rfl, hD.sub [0, 1] (by decide) rfl⟩, hS.F ht⟩) hS.2.2 d_Matcher_countSame_33
def g_Matcher_countSame_0 (N : Nat) (n1_bytes : Nat) (f1_bytes : Nat → Int32) (x2 : Int32) (x3 : Int32) (x4 : Int32) : Option (Int32) := (g_Matcher_countSame_L1 n1_bytes f1_bytes N x2 x3 x4 (3 : Int32))
set_option maxHeartbeats 4000000 in
set_option maxRecDepth 100000 in
theorem w_Matcher_countSame_0 {p : Program} {l : Launch} {e : Env} {s : State} {m : MethodId} {args : Array Value} {below : List Frame} {meth : Method} {c : Code} {dC : Nat → ClassId} {dI : Nat → Nat → Nat} {cI cB cZ : ClassId} {tS : Nat} {A : Nat → Prop} (C0 : gz_C p s m args meth c b_Matcher_countSame 6 (some .int) R_Matcher "countSame" gz_W A (dC, dI) vwCl [(cI, .int), (cB, .byte), (cZ, .boolean)] tS) (a0 : Nat) (a1 : Nat) (a1_bytes : Nat) (N : Nat) (v1_count : Int32) (v1_place : Int32) (n1_bytes : Nat) (f1_bytes : Nat → Int32) (x : Int32) : t_Matcher_countSame_0 p l e s m args below meth c dC dI cI cB cZ tS A a0 a1 a1_bytes N v1_count v1_place n1_bytes f1_bytes x (g_Matcher_countSame_0 N n1_bytes f1_bytes) := by
  obtain ⟨hx, hb, hr, hml, hown, hin0, hts, hlocks, hA, hK, hE⟩ := id C0
  intro x2 x3 x4 h H locs ls hP hD hS hl
  rw [g_Matcher_countSame_0] at h
  refine lv_iconst (v := (3 : Int32)) hx hb d_Matcher_countSame_0 (by decide) ?_
  refine lv_istore (lv' := [(5, .int (3 : Int32)), (1, .ref a1), (2, .int x2), (3, .int x3), (4, .int x4)]) hx hb d_Matcher_countSame_1 hl (by decide) rfl (fun ls hl => ?_)
  exact (w_Matcher_countSame_L1 C0 a0 a1 a1_bytes N v1_count v1_place n1_bytes f1_bytes x N) x2 x3 x4 (3 : Int32) h _ _ _ (hP.sub [0, 1] rfl) (hD.sub [0, 1] (by decide) rfl) hS (lv_sub hl [1, 2, 3, 4, 0] rfl)
set_option maxHeartbeats 4000000 in
set_option maxRecDepth 100000 in
theorem c_Matcher_countSame (l : Launch) (dC : Nat → ClassId) (dI : Nat → Nat → Nat) (cI cB cZ : ClassId) (tS : Nat) (a0 : Nat) (a1 : Nat) (a1_bytes : Nat) (sz : Nat) (N : Nat) (v1_count : Int32) (v1_place : Int32) (n1_bytes : Nat) (f1_bytes : Nat → Int32) (x2 : Int32) (x3 : Int32) (x4 : Int32) (x : Int32) (hf : (g_Matcher_countSame_0 N n1_bytes f1_bytes x2 x3 x4) = some x) : Met l y_Matcher_countSame w_Matcher_countSameS rm_Matcher_countSame (gz_Pc [.ref a0, .ref a1, .int x2, .int x3, .int x4] (dC, dI) vwCl [(cI, .int), (cB, .byte), (cZ, .boolean)] tS [(a1, .inr (1, [.ref a1_bytes, .int v1_count, .int v1_place])), (a1_bytes, .inl (cB, n1_bytes, .inl f1_bytes))] sz) (va_Qi (fun r (_ : Unit) => r = x) (gz_B (dC, dI) vwCl (va_A [(a1, .inr (1, [.ref a1_bytes, .int v1_count, .int v1_place])), (a1_bytes, .inl (cB, n1_bytes, .inl f1_bytes))] sz) (e_Matcher_countSame dC dI cI cB cZ a0 a1 a1_bytes N v1_count v1_place n1_bytes f1_bytes x)) (va_A [(a1, .inr (1, [.ref a1_bytes, .int v1_count, .int v1_place])), (a1_bytes, .inl (cB, n1_bytes, .inl f1_bytes))] sz)) 0 0 (va_A [(a1, .inr (1, [.ref a1_bytes, .int v1_count, .int v1_place])), (a1_bytes, .inl (cB, n1_bytes, .inl f1_bytes))] sz) := by
  refine Met.ofW (cc := b_Matcher_countSame) (maxL := 6) (ret := (some .int)) (by decide) rfl ?_
  intro p e s m args below meth c s₁ B hml hv
  obtain ⟨rfl, hsz, hP, hK, hD0, hE⟩ := hv
  subst hsz
  have hl := lv_entry ([.ref a0, .ref a1, .int x2, .int x3, .int x4]) (n := 6) (Nat.le_of_ble_eq_true rfl)
  rw [lg_entry_eq]
  generalize (lg_sl ([.ref a0, .ref a1, .int x2, .int x3, .int x4]) ++ List.replicate (6 - (lg_sl ([.ref a0, .ref a1, .int x2, .int x3, .int x4])).length) Slot.unset).toArray = ls at hl ⊢
  have C0 : gz_C p s m _ meth c b_Matcher_countSame 6 (some .int) R_Matcher "countSame" gz_W _ (dC, dI) vwCl [(cI, .int), (cB, .byte), (cZ, .boolean)] tS := ⟨B.exec, B.bytes, B.returns, hml, findClass_of_methodNamed B.named, (name_of_methodNamed B.named B.method).1, fun w h => atoms_spec (ws := w_Matcher_countSameS) B.pre w (List.mem_cons_of_mem _ h), B.notSynchronized, fun q h => Or.inr h, hK, hE⟩
  exact w_Matcher_countSame_0 C0 a0 a1 a1_bytes N v1_count v1_place n1_bytes f1_bytes x x2 x3 x4 hf _ _ _ hP (hD0.self (sz := s.heap.size)) va_S.rf (lv_sub hl [1, 2, 3, 4] rfl)
abbrev rm_Matcher_find : Room := { frames := 1, cells := 0, slots := 0, locals := 25 }
abbrev e_Matcher_find (dC : Nat → ClassId) (dI : Nat → Nat → Nat) (cI cB cZ : ClassId) (a0 : Nat) (a1 : Nat) (a0_sorted : Nat) (a0_nearest : Nat) (a0_starts : Nat) (a1_bytes : Nat) (N : Nat) (n0_nearest : Nat) (f0_nearest : Nat → Int32) (v1_count : Int32) (v1_place : Int32) (n1_bytes : Nat) (f1_bytes : Nat → Int32) (x : Int32 × Int32) (u : Unit) : va_W := [(a0, .inr (4, [.ref a0_sorted, .ref a0_nearest, .ref a0_starts, .int x.1, .int x.2])), (a0_nearest, .inl (cI, n0_nearest, .inl f0_nearest)), (a1, .inr (1, [.ref a1_bytes, .int v1_count, .int v1_place])), (a1_bytes, .inl (cB, n1_bytes, .inl f1_bytes))]
abbrev q_Matcher_find (below : List Frame) (args : Array Value) (s : State) (dC : Nat → ClassId) (dI : Nat → Nat → Nat) (cI cB cZ : ClassId) (A : Nat → Prop) (a0 : Nat) (a1 : Nat) (a0_sorted : Nat) (a0_nearest : Nat) (a0_starts : Nat) (a1_bytes : Nat) (N : Nat) (n0_nearest : Nat) (f0_nearest : Nat → Int32) (v1_count : Int32) (v1_place : Int32) (n1_bytes : Nat) (f1_bytes : Nat → Int32) (x : Int32 × Int32) : State → Prop := MQ below (va_Qv (fun (_ : Unit) => True) (gz_B (dC, dI) vwCl A (e_Matcher_find dC dI cI cB cZ a0 a1 a0_sorted a0_nearest a0_starts a1_bytes N n0_nearest f0_nearest v1_count v1_place n1_bytes f1_bytes x)) A) args s 0 0 A
def t_Matcher_find_J1 (p : Program) (l : Launch) (e : Env) (s : State) (m : MethodId) (args : Array Value) (below : List Frame) (meth : Method) (c : Code) (dC : Nat → ClassId) (dI : Nat → Nat → Nat) (cI cB cZ : ClassId) (tS : Nat) (A : Nat → Prop) (a0 : Nat) (a1 : Nat) (a0_sorted : Nat) (a0_nearest : Nat) (a0_starts : Nat) (a1_bytes : Nat) (N : Nat) (n0_nearest : Nat) (f0_nearest : Nat → Int32) (v1_count : Int32) (v1_place : Int32) (n1_bytes : Nat) (f1_bytes : Nat → Int32) (x : Int32 × Int32) (F : Int32 → Int32 → Int32 → Int32 → Int32 → Int32 → Int32 → Option (Int32 × Int32)) : Prop :=
  ∀ (x2 : Int32) (x4 : Int32) (x5 : Int32) (x6 : Int32) (x7 : Int32) (v0_length : Int32) (v0_distance : Int32), F x2 x4 x5 x6 x7 v0_length v0_distance = some x → ∀ (H : Heap) (locs : List Loc) (ls : Array Slot), va_P (dC, dI) vwCl [(a0, .inr (4, [.ref a0_sorted, .ref a0_nearest, .ref a0_starts, .int v0_length, .int v0_distance])), (a0_nearest, .inl (cI, n0_nearest, .inl f0_nearest)), (a1, .inr (1, [.ref a1_bytes, .int v1_count, .int v1_place])), (a1_bytes, .inl (cB, n1_bytes, .inl f1_bytes))] H → va_D A [(a0, .inr (4, [.ref a0_sorted, .ref a0_nearest, .ref a0_starts, .int v0_length, .int v0_distance])), (a0_nearest, .inl (cI, n0_nearest, .inl f0_nearest)), (a1, .inr (1, [.ref a1_bytes, .int v1_count, .int v1_place])), (a1_bytes, .inl (cB, n1_bytes, .inl f1_bytes))] → va_S A s.heap H locs → lv_has ls 9 [(0, .ref a0), (1, .ref a1), (2, .int x2), (4, .int x4), (5, .int x5), (6, .int x6), (7, .int x7)] → W p l e rm_Matcher_find s m args below meth c H locs 0 0 (q_Matcher_find below args s dC dI cI cB cZ A a0 a1 a0_sorted a0_nearest a0_starts a1_bytes N n0_nearest f0_nearest v1_count v1_place n1_bytes f1_bytes x) (F0 m 121 ls [])
def t_Matcher_find_L1 (p : Program) (l : Launch) (e : Env) (s : State) (m : MethodId) (args : Array Value) (below : List Frame) (meth : Method) (c : Code) (dC : Nat → ClassId) (dI : Nat → Nat → Nat) (cI cB cZ : ClassId) (tS : Nat) (A : Nat → Prop) (a0 : Nat) (a1 : Nat) (a0_sorted : Nat) (a0_nearest : Nat) (a0_starts : Nat) (a1_bytes : Nat) (N : Nat) (n0_nearest : Nat) (f0_nearest : Nat → Int32) (v1_count : Int32) (v1_place : Int32) (n1_bytes : Nat) (f1_bytes : Nat → Int32) (x : Int32 × Int32) (F : Int32 → Int32 → Int32 → Int32 → Int32 → Int32 → Int32 → Option (Int32 × Int32)) : Prop :=
  ∀ (x2 : Int32) (x4 : Int32) (x5 : Int32) (x6 : Int32) (x7 : Int32) (v0_length : Int32) (v0_distance : Int32), F x2 x4 x5 x6 x7 v0_length v0_distance = some x → ∀ (H : Heap) (locs : List Loc) (ls : Array Slot), va_P (dC, dI) vwCl [(a0, .inr (4, [.ref a0_sorted, .ref a0_nearest, .ref a0_starts, .int v0_length, .int v0_distance])), (a0_nearest, .inl (cI, n0_nearest, .inl f0_nearest)), (a1, .inr (1, [.ref a1_bytes, .int v1_count, .int v1_place])), (a1_bytes, .inl (cB, n1_bytes, .inl f1_bytes))] H → va_D A [(a0, .inr (4, [.ref a0_sorted, .ref a0_nearest, .ref a0_starts, .int v0_length, .int v0_distance])), (a0_nearest, .inl (cI, n0_nearest, .inl f0_nearest)), (a1, .inr (1, [.ref a1_bytes, .int v1_count, .int v1_place])), (a1_bytes, .inl (cB, n1_bytes, .inl f1_bytes))] → va_S A s.heap H locs → lv_has ls 9 [(0, .ref a0), (1, .ref a1), (2, .int x2), (4, .int x4), (5, .int x5), (6, .int x6), (7, .int x7)] → W p l e rm_Matcher_find s m args below meth c H locs 0 0 (q_Matcher_find below args s dC dI cI cB cZ A a0 a1 a0_sorted a0_nearest a0_starts a1_bytes N n0_nearest f0_nearest v1_count v1_place n1_bytes f1_bytes x) (F0 m 39 ls [])
def t_Matcher_find_0 (p : Program) (l : Launch) (e : Env) (s : State) (m : MethodId) (args : Array Value) (below : List Frame) (meth : Method) (c : Code) (dC : Nat → ClassId) (dI : Nat → Nat → Nat) (cI cB cZ : ClassId) (tS : Nat) (A : Nat → Prop) (a0 : Nat) (a1 : Nat) (a0_sorted : Nat) (a0_nearest : Nat) (a0_starts : Nat) (a1_bytes : Nat) (N : Nat) (n0_nearest : Nat) (f0_nearest : Nat → Int32) (v1_count : Int32) (v1_place : Int32) (n1_bytes : Nat) (f1_bytes : Nat → Int32) (x : Int32 × Int32) (F : Int32 → Int32 → Int32 → Int32 → Int32 → Option (Int32 × Int32)) : Prop :=
  ∀ (x2 : Int32) (x3 : Int32) (x4 : Int32) (v0_length : Int32) (v0_distance : Int32), F x2 x3 x4 v0_length v0_distance = some x → ∀ (H : Heap) (locs : List Loc) (ls : Array Slot), va_P (dC, dI) vwCl [(a0, .inr (4, [.ref a0_sorted, .ref a0_nearest, .ref a0_starts, .int v0_length, .int v0_distance])), (a0_nearest, .inl (cI, n0_nearest, .inl f0_nearest)), (a1, .inr (1, [.ref a1_bytes, .int v1_count, .int v1_place])), (a1_bytes, .inl (cB, n1_bytes, .inl f1_bytes))] H → va_D A [(a0, .inr (4, [.ref a0_sorted, .ref a0_nearest, .ref a0_starts, .int v0_length, .int v0_distance])), (a0_nearest, .inl (cI, n0_nearest, .inl f0_nearest)), (a1, .inr (1, [.ref a1_bytes, .int v1_count, .int v1_place])), (a1_bytes, .inl (cB, n1_bytes, .inl f1_bytes))] → va_S A s.heap H locs → lv_has ls 9 [(0, .ref a0), (1, .ref a1), (2, .int x2), (3, .int x3), (4, .int x4)] → W p l e rm_Matcher_find s m args below meth c H locs 0 0 (q_Matcher_find below args s dC dI cI cB cZ A a0 a1 a0_sorted a0_nearest a0_starts a1_bytes N n0_nearest f0_nearest v1_count v1_place n1_bytes f1_bytes x) (F0 m 0 ls [])
def g_Matcher_find_J1 (n0_nearest : Nat) (f0_nearest : Nat → Int32) (K_Matcher_find_L1 : Int32 → Int32 → Int32 → Int32 → Int32 → Int32 → Int32 → Option (Int32 × Int32)) (x2 : Int32) (x4 : Int32) (x5 : Int32) (x6 : Int32) (x7 : Int32) (v0_length : Int32) (v0_distance : Int32) : Option (Int32 × Int32) := (if x6 < 0 ∨ n0_nearest ≤ x6.toNatClampNeg then none else (K_Matcher_find_L1 x2 x4 x5 (f0_nearest x6.toNatClampNeg) (x7 + (1 : Int32)) v0_length v0_distance))
set_option maxHeartbeats 4000000 in
set_option maxRecDepth 100000 in
theorem w_Matcher_find_J1 {p : Program} {l : Launch} {e : Env} {s : State} {m : MethodId} {args : Array Value} {below : List Frame} {meth : Method} {c : Code} {dC : Nat → ClassId} {dI : Nat → Nat → Nat} {cI cB cZ : ClassId} {tS : Nat} {A : Nat → Prop} (C0 : gz_C p s m args meth c b_Matcher_find 9 none R_Matcher "find" gz_W A (dC, dI) vwCl [(cI, .int), (cB, .byte), (cZ, .boolean)] tS) (a0 : Nat) (a1 : Nat) (a0_sorted : Nat) (a0_nearest : Nat) (a0_starts : Nat) (a1_bytes : Nat) (N : Nat) (n0_nearest : Nat) (f0_nearest : Nat → Int32) (v1_count : Int32) (v1_place : Int32) (n1_bytes : Nat) (f1_bytes : Nat → Int32) (x : Int32 × Int32) {K_Matcher_find_L1 : Int32 → Int32 → Int32 → Int32 → Int32 → Int32 → Int32 → Option (Int32 × Int32)} (hK_Matcher_find_L1 : t_Matcher_find_L1 p l e s m args below meth c dC dI cI cB cZ tS A a0 a1 a0_sorted a0_nearest a0_starts a1_bytes N n0_nearest f0_nearest v1_count v1_place n1_bytes f1_bytes x K_Matcher_find_L1) : t_Matcher_find_J1 p l e s m args below meth c dC dI cI cB cZ tS A a0 a1 a0_sorted a0_nearest a0_starts a1_bytes N n0_nearest f0_nearest v1_count v1_place n1_bytes f1_bytes x (g_Matcher_find_J1 n0_nearest f0_nearest K_Matcher_find_L1) := by
  obtain ⟨hx, hb, hr, hml, hown, hin0, hts, hlocks, hA, hK, hE⟩ := id C0
  intro x2 x4 x5 x6 x7 v0_length v0_distance h H locs ls hP hD hS hl
  rw [g_Matcher_find_J1] at h
  refine lv_aload_n hx hb d_Matcher_find_121 rfl (lv_at hl 0 rfl) ?_
  refine va_get (D := (dC, dI)) (ci := 4) (v := .ref a0_nearest) (C := R_Matcher) (T := F_Matcher) (N := 5) hx hb hts in_Matcher hown hK hP 0 rfl rfl 1 (by decide) (hts _ kw_25) (fun _ h9 => h9) rfl d_Matcher_find_122 ?_
  refine lv_iload hx hb d_Matcher_find_125 (lv_at hl 5 rfl) ?_
  obtain ⟨hi11, h⟩ := gz_n h
  refine va_iald hx hb hK hP 1 0 rfl rfl hi11 d_Matcher_find_127 ?_
  refine lv_istore (lv' := [(6, .int (f0_nearest x6.toNatClampNeg)), (0, .ref a0), (1, .ref a1), (2, .int x2), (4, .int x4), (5, .int x5), (7, .int x7)]) hx hb d_Matcher_find_128 hl (by decide) rfl (fun ls hl => ?_)
  refine lv_iinc (v := x7 + (1 : Int32)) (lv' := [(7, .int (x7 + (1 : Int32))), (6, .int (f0_nearest x6.toNatClampNeg)), (0, .ref a0), (1, .ref a1), (2, .int x2), (4, .int x4), (5, .int x5)]) hx hb d_Matcher_find_130 hl (k := 6) rfl rfl (by decide) rfl (fun ls hl => ?_)
  refine lv_goto (tgt := 39) hx hb d_Matcher_find_133 (by decide) ?_
  exact hK_Matcher_find_L1 x2 x4 x5 (f0_nearest x6.toNatClampNeg) (x7 + (1 : Int32)) v0_length v0_distance h _ _ _ (hP.sub [0, 1, 2, 3] rfl) (hD.sub [0, 1, 2, 3] (by decide) rfl) hS (lv_sub hl [2, 3, 4, 5, 6, 1, 0] rfl)
def g_Matcher_find_L1 (N : Nat) (n0_nearest : Nat) (f0_nearest : Nat → Int32) (n1_bytes : Nat) (f1_bytes : Nat → Int32) : Nat → Int32 → Int32 → Int32 → Int32 → Int32 → Int32 → Int32 → Option (Int32 × Int32)
  | 0, _, _, _, _, _, _, _ => none
  | n + 1, x2, x4, x5, x6, x7, v0_length, v0_distance => (if x4 ≤ x7 then some (v0_length, v0_distance) else (if x6 < 0 then some (v0_length, v0_distance) else (if x5 ≤ v0_length then some (v0_length, v0_distance) else (if x6 + v0_length < 0 ∨ n1_bytes ≤ (x6 + v0_length).toNatClampNeg then none else (if x2 + v0_length < 0 ∨ n1_bytes ≤ (x2 + v0_length).toNatClampNeg then none else (if (f1_bytes (x6 + v0_length).toNatClampNeg) = (f1_bytes (x2 + v0_length).toNatClampNeg) then (Option.bind (g_Matcher_countSame_0 N n1_bytes f1_bytes x6 x2 x5) (fun r9 => (if r9 ≤ v0_length then (g_Matcher_find_J1 n0_nearest f0_nearest (g_Matcher_find_L1 N n0_nearest f0_nearest n1_bytes f1_bytes n) x2 x4 x5 x6 x7 v0_length v0_distance) else (g_Matcher_find_J1 n0_nearest f0_nearest (g_Matcher_find_L1 N n0_nearest f0_nearest n1_bytes f1_bytes n) x2 x4 x5 x6 x7 r9 (x2 - x6))))) else (g_Matcher_find_J1 n0_nearest f0_nearest (g_Matcher_find_L1 N n0_nearest f0_nearest n1_bytes f1_bytes n) x2 x4 x5 x6 x7 v0_length v0_distance)))))))
set_option maxHeartbeats 4000000 in
set_option maxRecDepth 100000 in
theorem w_Matcher_find_L1 {p : Program} {l : Launch} {e : Env} {s : State} {m : MethodId} {args : Array Value} {below : List Frame} {meth : Method} {c : Code} {dC : Nat → ClassId} {dI : Nat → Nat → Nat} {cI cB cZ : ClassId} {tS : Nat} {A : Nat → Prop} (C0 : gz_C p s m args meth c b_Matcher_find 9 none R_Matcher "find" gz_W A (dC, dI) vwCl [(cI, .int), (cB, .byte), (cZ, .boolean)] tS) (a0 : Nat) (a1 : Nat) (a0_sorted : Nat) (a0_nearest : Nat) (a0_starts : Nat) (a1_bytes : Nat) (N : Nat) (n0_nearest : Nat) (f0_nearest : Nat → Int32) (v1_count : Int32) (v1_place : Int32) (n1_bytes : Nat) (f1_bytes : Nat → Int32) (x : Int32 × Int32) : ∀ n : Nat, t_Matcher_find_L1 p l e s m args below meth c dC dI cI cB cZ tS A a0 a1 a0_sorted a0_nearest a0_starts a1_bytes N n0_nearest f0_nearest v1_count v1_place n1_bytes f1_bytes x (g_Matcher_find_L1 N n0_nearest f0_nearest n1_bytes f1_bytes n) := by
  obtain ⟨hx, hb, hr, hml, hown, hin0, hts, hlocks, hA, hK, hE⟩ := id C0
  intro n
  induction n with
  | zero =>
    intro x2 x4 x5 x6 x7 v0_length v0_distance h
    cases h
  | succ n ih =>
    intro x2 x4 x5 x6 x7 v0_length v0_distance h H locs ls hP hD hS hl
    rw [g_Matcher_find_L1] at h
    refine lv_iload hx hb d_Matcher_find_39 (lv_at hl 6 rfl) ?_
    refine lv_iload hx hb d_Matcher_find_41 (lv_at hl 3 rfl) ?_
    refine lv_icmp_ge (tgt := 136) hx hb d_Matcher_find_43 (by decide) (fun c3 => ?_) (fun c3 => ?_)
    · have h := gz_t h c3
      obtain rfl := Option.some.inj h
      exact W.vret hx hb hr (fun t ht hW => ⟨⟨(), rfl, trivial, by rw [ht]; exact hP.sub [0, 1, 2, 3] rfl, hD.sub [0, 1, 2, 3] (by decide) rfl⟩, hS.F ht⟩) hS.2.2 d_Matcher_find_136
    · have h := gz_f h c3
      refine lv_iload hx hb d_Matcher_find_46 (lv_at hl 5 rfl) ?_
      refine lv_if_lt (tgt := 136) hx hb d_Matcher_find_48 (by decide) (fun c4 => ?_) (fun c4 => ?_)
      · have h := gz_t h c4
        obtain rfl := Option.some.inj h
        exact W.vret hx hb hr (fun t ht hW => ⟨⟨(), rfl, trivial, by rw [ht]; exact hP.sub [0, 1, 2, 3] rfl, hD.sub [0, 1, 2, 3] (by decide) rfl⟩, hS.F ht⟩) hS.2.2 d_Matcher_find_136
      · have h := gz_f h c4
        refine lv_aload_n hx hb d_Matcher_find_51 rfl (lv_at hl 0 rfl) ?_
        refine va_get (D := (dC, dI)) (ci := 4) (v := .int v0_length) (C := R_Matcher) (T := F_Matcher) (N := 5) hx hb hts in_Matcher hown hK hP 0 rfl rfl 3 (by decide) (hts _ kw_27) (fun _ h9 => h9) rfl d_Matcher_find_52 ?_
        refine lv_iload hx hb d_Matcher_find_55 (lv_at hl 4 rfl) ?_
        refine lv_icmp_ge (tgt := 136) hx hb d_Matcher_find_57 (by decide) (fun c5 => ?_) (fun c5 => ?_)
        · have h := gz_t h c5
          obtain rfl := Option.some.inj h
          exact W.vret hx hb hr (fun t ht hW => ⟨⟨(), rfl, trivial, by rw [ht]; exact hP.sub [0, 1, 2, 3] rfl, hD.sub [0, 1, 2, 3] (by decide) rfl⟩, hS.F ht⟩) hS.2.2 d_Matcher_find_136
        · have h := gz_f h c5
          refine lv_aload_n hx hb d_Matcher_find_60 rfl (lv_at hl 1 rfl) ?_
          refine va_get (D := (dC, dI)) (ci := 1) (v := .ref a1_bytes) (C := R_Row) (T := F_Row) (N := 3) hx hb hts in_Row hown hK hP 2 rfl rfl 0 (by decide) (hts _ kw_184) (fun _ h9 => h9) rfl d_Matcher_find_61 ?_
          refine lv_iload hx hb d_Matcher_find_64 (lv_at hl 5 rfl) ?_
          refine lv_aload_n hx hb d_Matcher_find_66 rfl (lv_at hl 0 rfl) ?_
          refine va_get (D := (dC, dI)) (ci := 4) (v := .int v0_length) (C := R_Matcher) (T := F_Matcher) (N := 5) hx hb hts in_Matcher hown hK hP 0 rfl rfl 3 (by decide) (hts _ kw_27) (fun _ h9 => h9) rfl d_Matcher_find_67 ?_
          refine lv_iadd hx hb d_Matcher_find_70 ?_
          obtain ⟨hi6, h⟩ := gz_n h
          refine va_bald hx hb hK hP 3 1 rfl rfl hi6 d_Matcher_find_71 ?_
          refine lv_aload_n hx hb d_Matcher_find_72 rfl (lv_at hl 1 rfl) ?_
          refine va_get (D := (dC, dI)) (ci := 1) (v := .ref a1_bytes) (C := R_Row) (T := F_Row) (N := 3) hx hb hts in_Row hown hK hP 2 rfl rfl 0 (by decide) (hts _ kw_184) (fun _ h9 => h9) rfl d_Matcher_find_73 ?_
          refine lv_iload_n hx hb d_Matcher_find_76 rfl (lv_at hl 2 rfl) ?_
          refine lv_aload_n hx hb d_Matcher_find_77 rfl (lv_at hl 0 rfl) ?_
          refine va_get (D := (dC, dI)) (ci := 4) (v := .int v0_length) (C := R_Matcher) (T := F_Matcher) (N := 5) hx hb hts in_Matcher hown hK hP 0 rfl rfl 3 (by decide) (hts _ kw_27) (fun _ h9 => h9) rfl d_Matcher_find_78 ?_
          refine lv_iadd hx hb d_Matcher_find_81 ?_
          obtain ⟨hi7, h⟩ := gz_n h
          refine va_bald hx hb hK hP 3 1 rfl rfl hi7 d_Matcher_find_82 ?_
          refine lv_icmp_ne (tgt := 121) hx hb d_Matcher_find_83 (by decide) (fun c8 => ?_) (fun c8 => ?_)
          · have h := gz_f h c8
            exact (w_Matcher_find_J1 C0 a0 a1 a0_sorted a0_nearest a0_starts a1_bytes N n0_nearest f0_nearest v1_count v1_place n1_bytes f1_bytes x ih) x2 x4 x5 x6 x7 v0_length v0_distance h _ _ _ (hP.sub [0, 1, 2, 3] rfl) (hD.sub [0, 1, 2, 3] (by decide) rfl) hS (lv_sub hl [0, 1, 2, 3, 4, 5, 6] rfl)
          · have h := gz_t h c8
            refine lv_aload_n hx hb d_Matcher_find_86 rfl (lv_at hl 0 rfl) ?_
            refine lv_aload_n hx hb d_Matcher_find_87 rfl (lv_at hl 1 rfl) ?_
            refine lv_iload hx hb d_Matcher_find_88 (lv_at hl 5 rfl) ?_
            refine lv_iload_n hx hb d_Matcher_find_90 rfl (lv_at hl 2 rfl) ?_
            refine lv_iload hx hb d_Matcher_find_91 (lv_at hl 4 rfl) ?_
            obtain ⟨r9, hcr9, h⟩ := gz_b h
            refine gz_ci hP hD hS hA [2, 3] [0, 1] (wr := [(a0, .inr (4, [.ref a0_sorted, .ref a0_nearest, .ref a0_starts, .int v0_length, .int v0_distance])), (a0_nearest, .inl (cI, n0_nearest, .inl f0_nearest))]) rfl rfl (by decide) (by decide) (va_runV (As := [.ref a1, .int x6, .int x2, .int x5]) (rest := []) ⟨hx, hb, hml, hown, hts⟩ (c_Matcher_countSame l dC dI cI cB cZ tS a0 a1 a1_bytes H.size N v1_count v1_place n1_bytes f1_bytes x6 x2 x5 r9 hcr9) (cwV 4 hts (gz_gV kw_215 kw_216 kw_217 kw_21 kw_214) rfl rfl rfl (by decide +kernel) ⟨(Nat.le_of_ble_eq_true rfl), (Nat.le_of_ble_eq_true rfl)⟩) (gz_preV hK hE hP hD hS hA [2, 3] (by decide) rfl 0 4 rfl rfl) rfl rfl hl.1 rfl (lv_room (Nat.le_of_ble_eq_true rfl)) d_Matcher_find_93 ⟨(Nat.le_of_ble_eq_true rfl), (Nat.le_of_ble_eq_true rfl)⟩) (fun _ H locs hP hD hS => ?_)
            have hP : va_P (dC, dI) vwCl [(a0, .inr (4, [.ref a0_sorted, .ref a0_nearest, .ref a0_starts, .int v0_length, .int v0_distance])), (a0_nearest, .inl (cI, n0_nearest, .inl f0_nearest)), (a1, .inr (1, [.ref a1_bytes, .int v1_count, .int v1_place])), (a1_bytes, .inl (cB, n1_bytes, .inl f1_bytes))] H := hP
            have hD : va_D A [(a0, .inr (4, [.ref a0_sorted, .ref a0_nearest, .ref a0_starts, .int v0_length, .int v0_distance])), (a0_nearest, .inl (cI, n0_nearest, .inl f0_nearest)), (a1, .inr (1, [.ref a1_bytes, .int v1_count, .int v1_place])), (a1_bytes, .inl (cB, n1_bytes, .inl f1_bytes))] := hD
            refine lv_istore (lv' := [(8, .int r9), (0, .ref a0), (1, .ref a1), (2, .int x2), (4, .int x4), (5, .int x5), (6, .int x6), (7, .int x7)]) hx hb d_Matcher_find_96 hl (by decide) rfl (fun ls hl => ?_)
            refine lv_iload hx hb d_Matcher_find_98 (lv_at hl 0 rfl) ?_
            refine lv_aload_n hx hb d_Matcher_find_100 rfl (lv_at hl 1 rfl) ?_
            refine va_get (D := (dC, dI)) (ci := 4) (v := .int v0_length) (C := R_Matcher) (T := F_Matcher) (N := 5) hx hb hts in_Matcher hown hK hP 0 rfl rfl 3 (by decide) (hts _ kw_27) (fun _ h9 => h9) rfl d_Matcher_find_101 ?_
            refine lv_icmp_le (tgt := 121) hx hb d_Matcher_find_104 (by decide) (fun c10 => ?_) (fun c10 => ?_)
            · have h := gz_t h c10
              exact (w_Matcher_find_J1 C0 a0 a1 a0_sorted a0_nearest a0_starts a1_bytes N n0_nearest f0_nearest v1_count v1_place n1_bytes f1_bytes x ih) x2 x4 x5 x6 x7 v0_length v0_distance h _ _ _ (hP.sub [0, 1, 2, 3] rfl) (hD.sub [0, 1, 2, 3] (by decide) rfl) hS (lv_sub hl [1, 2, 3, 4, 5, 6, 7] rfl)
            · have h := gz_f h c10
              refine lv_aload_n hx hb d_Matcher_find_107 rfl (lv_at hl 1 rfl) ?_
              refine lv_iload hx hb d_Matcher_find_108 (lv_at hl 0 rfl) ?_
              refine va_put (D := (dC, dI)) (ci := 4) (v := .int r9) (ty := .int) (C := R_Matcher) (T := F_Matcher) (N := 5) hx hb hts in_Matcher t_Matcher t_Matcher_ok n_Matcher hown hK hP hD hS 0 rfl rfl 3 (by decide) (hts _ kw_27) (fun _ h9 => h9) rfl (by decide +kernel) rfl rfl (Nat.le_of_ble_eq_true rfl) d_Matcher_find_110 (fun H locs hP hD hS => ?_)
              have hP : va_P (dC, dI) vwCl [(a0, .inr (4, [.ref a0_sorted, .ref a0_nearest, .ref a0_starts, .int r9, .int v0_distance])), (a0_nearest, .inl (cI, n0_nearest, .inl f0_nearest)), (a1, .inr (1, [.ref a1_bytes, .int v1_count, .int v1_place])), (a1_bytes, .inl (cB, n1_bytes, .inl f1_bytes))] H := hP
              have hD : va_D A [(a0, .inr (4, [.ref a0_sorted, .ref a0_nearest, .ref a0_starts, .int r9, .int v0_distance])), (a0_nearest, .inl (cI, n0_nearest, .inl f0_nearest)), (a1, .inr (1, [.ref a1_bytes, .int v1_count, .int v1_place])), (a1_bytes, .inl (cB, n1_bytes, .inl f1_bytes))] := hD
              refine lv_aload_n hx hb d_Matcher_find_113 rfl (lv_at hl 1 rfl) ?_
              refine lv_iload_n hx hb d_Matcher_find_114 rfl (lv_at hl 3 rfl) ?_
              refine lv_iload hx hb d_Matcher_find_115 (lv_at hl 6 rfl) ?_
              refine lv_isub hx hb d_Matcher_find_117 ?_
              refine va_put (D := (dC, dI)) (ci := 4) (v := .int (x2 - x6)) (ty := .int) (C := R_Matcher) (T := F_Matcher) (N := 5) hx hb hts in_Matcher t_Matcher t_Matcher_ok n_Matcher hown hK hP hD hS 0 rfl rfl 4 (by decide) (hts _ kw_28) (fun _ h9 => h9) rfl (by decide +kernel) rfl rfl (Nat.le_of_ble_eq_true rfl) d_Matcher_find_118 (fun H locs hP hD hS => ?_)
              have hP : va_P (dC, dI) vwCl [(a0, .inr (4, [.ref a0_sorted, .ref a0_nearest, .ref a0_starts, .int r9, .int (x2 - x6)])), (a0_nearest, .inl (cI, n0_nearest, .inl f0_nearest)), (a1, .inr (1, [.ref a1_bytes, .int v1_count, .int v1_place])), (a1_bytes, .inl (cB, n1_bytes, .inl f1_bytes))] H := hP
              have hD : va_D A [(a0, .inr (4, [.ref a0_sorted, .ref a0_nearest, .ref a0_starts, .int r9, .int (x2 - x6)])), (a0_nearest, .inl (cI, n0_nearest, .inl f0_nearest)), (a1, .inr (1, [.ref a1_bytes, .int v1_count, .int v1_place])), (a1_bytes, .inl (cB, n1_bytes, .inl f1_bytes))] := hD
              exact (w_Matcher_find_J1 C0 a0 a1 a0_sorted a0_nearest a0_starts a1_bytes N n0_nearest f0_nearest v1_count v1_place n1_bytes f1_bytes x ih) x2 x4 x5 x6 x7 r9 (x2 - x6) h _ _ _ (hP.sub [0, 1, 2, 3] rfl) (hD.sub [0, 1, 2, 3] (by decide) rfl) hS (lv_sub hl [1, 2, 3, 4, 5, 6, 7] rfl)
def g_Matcher_find_0 (N : Nat) (n0_nearest : Nat) (f0_nearest : Nat → Int32) (n1_bytes : Nat) (f1_bytes : Nat → Int32) (x2 : Int32) (x3 : Int32) (x4 : Int32) (v0_length : Int32) (v0_distance : Int32) : Option (Int32 × Int32) := (if (3 : Int32) ≤ (if (258 : Int32) < (x3 - x2) then (258 : Int32) else (x3 - x2)) then (if x2 < 0 ∨ n0_nearest ≤ x2.toNatClampNeg then none else (g_Matcher_find_L1 N n0_nearest f0_nearest n1_bytes f1_bytes N x2 x4 (if (258 : Int32) < (x3 - x2) then (258 : Int32) else (x3 - x2)) (f0_nearest x2.toNatClampNeg) (0 : Int32) (0 : Int32) (0 : Int32))) else some ((0 : Int32), (0 : Int32)))
set_option maxHeartbeats 4000000 in
set_option maxRecDepth 100000 in
theorem w_Matcher_find_0 {p : Program} {l : Launch} {e : Env} {s : State} {m : MethodId} {args : Array Value} {below : List Frame} {meth : Method} {c : Code} {dC : Nat → ClassId} {dI : Nat → Nat → Nat} {cI cB cZ : ClassId} {tS : Nat} {A : Nat → Prop} (C0 : gz_C p s m args meth c b_Matcher_find 9 none R_Matcher "find" gz_W A (dC, dI) vwCl [(cI, .int), (cB, .byte), (cZ, .boolean)] tS) (a0 : Nat) (a1 : Nat) (a0_sorted : Nat) (a0_nearest : Nat) (a0_starts : Nat) (a1_bytes : Nat) (N : Nat) (n0_nearest : Nat) (f0_nearest : Nat → Int32) (v1_count : Int32) (v1_place : Int32) (n1_bytes : Nat) (f1_bytes : Nat → Int32) (x : Int32 × Int32) : t_Matcher_find_0 p l e s m args below meth c dC dI cI cB cZ tS A a0 a1 a0_sorted a0_nearest a0_starts a1_bytes N n0_nearest f0_nearest v1_count v1_place n1_bytes f1_bytes x (g_Matcher_find_0 N n0_nearest f0_nearest n1_bytes f1_bytes) := by
  obtain ⟨hx, hb, hr, hml, hown, hin0, hts, hlocks, hA, hK, hE⟩ := id C0
  intro x2 x3 x4 v0_length v0_distance h H locs ls hP hD hS hl
  rw [g_Matcher_find_0] at h
  refine lv_aload_n hx hb d_Matcher_find_0 rfl (lv_at hl 0 rfl) ?_
  refine lv_iconst (v := (0 : Int32)) hx hb d_Matcher_find_1 (by decide) ?_
  refine va_put (D := (dC, dI)) (ci := 4) (v := .int (0 : Int32)) (ty := .int) (C := R_Matcher) (T := F_Matcher) (N := 5) hx hb hts in_Matcher t_Matcher t_Matcher_ok n_Matcher hown hK hP hD hS 0 rfl rfl 3 (by decide) (hts _ kw_27) (fun _ h9 => h9) rfl (by decide +kernel) rfl rfl (Nat.le_of_ble_eq_true rfl) d_Matcher_find_2 (fun H locs hP hD hS => ?_)
  have hP : va_P (dC, dI) vwCl [(a0, .inr (4, [.ref a0_sorted, .ref a0_nearest, .ref a0_starts, .int (0 : Int32), .int v0_distance])), (a0_nearest, .inl (cI, n0_nearest, .inl f0_nearest)), (a1, .inr (1, [.ref a1_bytes, .int v1_count, .int v1_place])), (a1_bytes, .inl (cB, n1_bytes, .inl f1_bytes))] H := hP
  have hD : va_D A [(a0, .inr (4, [.ref a0_sorted, .ref a0_nearest, .ref a0_starts, .int (0 : Int32), .int v0_distance])), (a0_nearest, .inl (cI, n0_nearest, .inl f0_nearest)), (a1, .inr (1, [.ref a1_bytes, .int v1_count, .int v1_place])), (a1_bytes, .inl (cB, n1_bytes, .inl f1_bytes))] := hD
  refine lv_aload_n hx hb d_Matcher_find_5 rfl (lv_at hl 0 rfl) ?_
  refine lv_iconst (v := (0 : Int32)) hx hb d_Matcher_find_6 (by decide) ?_
  refine va_put (D := (dC, dI)) (ci := 4) (v := .int (0 : Int32)) (ty := .int) (C := R_Matcher) (T := F_Matcher) (N := 5) hx hb hts in_Matcher t_Matcher t_Matcher_ok n_Matcher hown hK hP hD hS 0 rfl rfl 4 (by decide) (hts _ kw_28) (fun _ h9 => h9) rfl (by decide +kernel) rfl rfl (Nat.le_of_ble_eq_true rfl) d_Matcher_find_7 (fun H locs hP hD hS => ?_)
  have hP : va_P (dC, dI) vwCl [(a0, .inr (4, [.ref a0_sorted, .ref a0_nearest, .ref a0_starts, .int (0 : Int32), .int (0 : Int32)])), (a0_nearest, .inl (cI, n0_nearest, .inl f0_nearest)), (a1, .inr (1, [.ref a1_bytes, .int v1_count, .int v1_place])), (a1_bytes, .inl (cB, n1_bytes, .inl f1_bytes))] H := hP
  have hD : va_D A [(a0, .inr (4, [.ref a0_sorted, .ref a0_nearest, .ref a0_starts, .int (0 : Int32), .int (0 : Int32)])), (a0_nearest, .inl (cI, n0_nearest, .inl f0_nearest)), (a1, .inr (1, [.ref a1_bytes, .int v1_count, .int v1_place])), (a1_bytes, .inl (cB, n1_bytes, .inl f1_bytes))] := hD
  refine lv_iload_n hx hb d_Matcher_find_10 rfl (lv_at hl 3 rfl) ?_
  refine lv_iload_n hx hb d_Matcher_find_11 rfl (lv_at hl 2 rfl) ?_
  refine lv_isub hx hb d_Matcher_find_12 ?_
  refine lv_sipush (v := (258 : Int32)) hx hb d_Matcher_find_13 (by decide) ?_
  refine va_mmin hx hb (hml.trans hl.1.symm) hown (hts _ kw_182) (hts _ kw_166) (hts _ kw_167) (hts _ kw_168) (Nat.le_of_ble_eq_true rfl) (Nat.le_of_ble_eq_true rfl) (Nat.le_of_ble_eq_true rfl) (Nat.le_of_ble_eq_true rfl) d_Matcher_find_16 ?_
  refine lv_istore (lv' := [(5, .int (if (258 : Int32) < (x3 - x2) then (258 : Int32) else (x3 - x2))), (0, .ref a0), (1, .ref a1), (2, .int x2), (3, .int x3), (4, .int x4)]) hx hb d_Matcher_find_19 hl (by decide) rfl (fun ls hl => ?_)
  refine lv_iload hx hb d_Matcher_find_21 (lv_at hl 0 rfl) ?_
  refine lv_iconst (v := (3 : Int32)) hx hb d_Matcher_find_23 (by decide) ?_
  refine lv_icmp_ge (tgt := 28) hx hb d_Matcher_find_24 (by decide) (fun c1 => ?_) (fun c1 => ?_)
  · have h := gz_t h c1
    refine lv_aload_n hx hb d_Matcher_find_28 rfl (lv_at hl 1 rfl) ?_
    refine va_get (D := (dC, dI)) (ci := 4) (v := .ref a0_nearest) (C := R_Matcher) (T := F_Matcher) (N := 5) hx hb hts in_Matcher hown hK hP 0 rfl rfl 1 (by decide) (hts _ kw_25) (fun _ h9 => h9) rfl d_Matcher_find_29 ?_
    refine lv_iload_n hx hb d_Matcher_find_32 rfl (lv_at hl 3 rfl) ?_
    obtain ⟨hi2, h⟩ := gz_n h
    refine va_iald hx hb hK hP 1 0 rfl rfl hi2 d_Matcher_find_33 ?_
    refine lv_istore (lv' := [(6, .int (f0_nearest x2.toNatClampNeg)), (5, .int (if (258 : Int32) < (x3 - x2) then (258 : Int32) else (x3 - x2))), (0, .ref a0), (1, .ref a1), (2, .int x2), (3, .int x3), (4, .int x4)]) hx hb d_Matcher_find_34 hl (by decide) rfl (fun ls hl => ?_)
    refine lv_iconst (v := (0 : Int32)) hx hb d_Matcher_find_36 (by decide) ?_
    refine lv_istore (lv' := [(7, .int (0 : Int32)), (6, .int (f0_nearest x2.toNatClampNeg)), (5, .int (if (258 : Int32) < (x3 - x2) then (258 : Int32) else (x3 - x2))), (0, .ref a0), (1, .ref a1), (2, .int x2), (3, .int x3), (4, .int x4)]) hx hb d_Matcher_find_37 hl (by decide) rfl (fun ls hl => ?_)
    exact (w_Matcher_find_L1 C0 a0 a1 a0_sorted a0_nearest a0_starts a1_bytes N n0_nearest f0_nearest v1_count v1_place n1_bytes f1_bytes x N) x2 x4 (if (258 : Int32) < (x3 - x2) then (258 : Int32) else (x3 - x2)) (f0_nearest x2.toNatClampNeg) (0 : Int32) (0 : Int32) (0 : Int32) h _ _ _ (hP.sub [0, 1, 2, 3] rfl) (hD.sub [0, 1, 2, 3] (by decide) rfl) hS (lv_sub hl [3, 4, 5, 7, 2, 1, 0] rfl)
  · have h := gz_f h c1
    obtain rfl := Option.some.inj h
    exact W.vret hx hb hr (fun t ht hW => ⟨⟨(), rfl, trivial, by rw [ht]; exact hP.sub [0, 1, 2, 3] rfl, hD.sub [0, 1, 2, 3] (by decide) rfl⟩, hS.F ht⟩) hS.2.2 d_Matcher_find_27
set_option maxHeartbeats 4000000 in
set_option maxRecDepth 100000 in
theorem c_Matcher_find (l : Launch) (dC : Nat → ClassId) (dI : Nat → Nat → Nat) (cI cB cZ : ClassId) (tS : Nat) (a0 : Nat) (a1 : Nat) (a0_sorted : Nat) (a0_nearest : Nat) (a0_starts : Nat) (a1_bytes : Nat) (sz : Nat) (N : Nat) (n0_nearest : Nat) (f0_nearest : Nat → Int32) (v1_count : Int32) (v1_place : Int32) (n1_bytes : Nat) (f1_bytes : Nat → Int32) (x2 : Int32) (x3 : Int32) (x4 : Int32) (v0_length : Int32) (v0_distance : Int32) (x : Int32 × Int32) (hf : (g_Matcher_find_0 N n0_nearest f0_nearest n1_bytes f1_bytes x2 x3 x4 v0_length v0_distance) = some x) : Met l y_Matcher_find w_Matcher_findS rm_Matcher_find (gz_Pc [.ref a0, .ref a1, .int x2, .int x3, .int x4] (dC, dI) vwCl [(cI, .int), (cB, .byte), (cZ, .boolean)] tS [(a0, .inr (4, [.ref a0_sorted, .ref a0_nearest, .ref a0_starts, .int v0_length, .int v0_distance])), (a0_nearest, .inl (cI, n0_nearest, .inl f0_nearest)), (a1, .inr (1, [.ref a1_bytes, .int v1_count, .int v1_place])), (a1_bytes, .inl (cB, n1_bytes, .inl f1_bytes))] sz) (va_Qv (fun (_ : Unit) => True) (gz_B (dC, dI) vwCl (va_A [(a0, .inr (4, [.ref a0_sorted, .ref a0_nearest, .ref a0_starts, .int v0_length, .int v0_distance])), (a0_nearest, .inl (cI, n0_nearest, .inl f0_nearest)), (a1, .inr (1, [.ref a1_bytes, .int v1_count, .int v1_place])), (a1_bytes, .inl (cB, n1_bytes, .inl f1_bytes))] sz) (e_Matcher_find dC dI cI cB cZ a0 a1 a0_sorted a0_nearest a0_starts a1_bytes N n0_nearest f0_nearest v1_count v1_place n1_bytes f1_bytes x)) (va_A [(a0, .inr (4, [.ref a0_sorted, .ref a0_nearest, .ref a0_starts, .int v0_length, .int v0_distance])), (a0_nearest, .inl (cI, n0_nearest, .inl f0_nearest)), (a1, .inr (1, [.ref a1_bytes, .int v1_count, .int v1_place])), (a1_bytes, .inl (cB, n1_bytes, .inl f1_bytes))] sz)) 0 0 (va_A [(a0, .inr (4, [.ref a0_sorted, .ref a0_nearest, .ref a0_starts, .int v0_length, .int v0_distance])), (a0_nearest, .inl (cI, n0_nearest, .inl f0_nearest)), (a1, .inr (1, [.ref a1_bytes, .int v1_count, .int v1_place])), (a1_bytes, .inl (cB, n1_bytes, .inl f1_bytes))] sz) := by
  refine Met.ofW (cc := b_Matcher_find) (maxL := 9) (ret := none) (by decide) rfl ?_
  intro p e s m args below meth c s₁ B hml hv
  obtain ⟨rfl, hsz, hP, hK, hD0, hE⟩ := hv
  subst hsz
  have hl := lv_entry ([.ref a0, .ref a1, .int x2, .int x3, .int x4]) (n := 9) (Nat.le_of_ble_eq_true rfl)
  rw [lg_entry_eq]
  generalize (lg_sl ([.ref a0, .ref a1, .int x2, .int x3, .int x4]) ++ List.replicate (9 - (lg_sl ([.ref a0, .ref a1, .int x2, .int x3, .int x4])).length) Slot.unset).toArray = ls at hl ⊢
  have C0 : gz_C p s m _ meth c b_Matcher_find 9 none R_Matcher "find" gz_W _ (dC, dI) vwCl [(cI, .int), (cB, .byte), (cZ, .boolean)] tS := ⟨B.exec, B.bytes, B.returns, hml, findClass_of_methodNamed B.named, (name_of_methodNamed B.named B.method).1, fun w h => atoms_spec (ws := w_Matcher_findS) B.pre w (List.mem_cons_of_mem _ h), B.notSynchronized, fun q h => Or.inr h, hK, hE⟩
  exact w_Matcher_find_0 C0 a0 a1 a0_sorted a0_nearest a0_starts a1_bytes N n0_nearest f0_nearest v1_count v1_place n1_bytes f1_bytes x x2 x3 x4 v0_length v0_distance hf _ _ _ hP (hD0.self (sz := s.heap.size)) va_S.rf (lv_sub hl [0, 1, 2, 3, 4] rfl)
abbrev rm_Found_addItem : Room := { frames := 0, cells := 0, slots := 0, locals := 0 }
abbrev e_Found_addItem (dC : Nat → ClassId) (dI : Nat → Nat → Nat) (cI cB cZ : ClassId) (a0 : Nat) (a0_items : Nat) (a0_symbolCounts : Nat) (a0_distanceCounts : Nat) (N : Nat) (n0_items : Nat) (x : (Nat → Int32) × Int32) (u : Unit) : va_W := [(a0, .inr (6, [.ref a0_items, .int x.2, .ref a0_symbolCounts, .ref a0_distanceCounts])), (a0_items, .inl (cI, n0_items, .inl x.1))]
abbrev q_Found_addItem (below : List Frame) (args : Array Value) (s : State) (dC : Nat → ClassId) (dI : Nat → Nat → Nat) (cI cB cZ : ClassId) (A : Nat → Prop) (a0 : Nat) (a0_items : Nat) (a0_symbolCounts : Nat) (a0_distanceCounts : Nat) (N : Nat) (n0_items : Nat) (x : (Nat → Int32) × Int32) : State → Prop := MQ below (va_Qv (fun (_ : Unit) => True) (gz_B (dC, dI) vwCl A (e_Found_addItem dC dI cI cB cZ a0 a0_items a0_symbolCounts a0_distanceCounts N n0_items x)) A) args s 0 0 A
def t_Found_addItem_0 (p : Program) (l : Launch) (e : Env) (s : State) (m : MethodId) (args : Array Value) (below : List Frame) (meth : Method) (c : Code) (dC : Nat → ClassId) (dI : Nat → Nat → Nat) (cI cB cZ : ClassId) (tS : Nat) (A : Nat → Prop) (a0 : Nat) (a0_items : Nat) (a0_symbolCounts : Nat) (a0_distanceCounts : Nat) (N : Nat) (n0_items : Nat) (x : (Nat → Int32) × Int32) (F : Int32 → (Nat → Int32) → Int32 → Option ((Nat → Int32) × Int32)) : Prop :=
  ∀ (x1 : Int32) (f0_items : Nat → Int32) (v0_count : Int32), F x1 f0_items v0_count = some x → ∀ (H : Heap) (locs : List Loc) (ls : Array Slot), va_P (dC, dI) vwCl [(a0, .inr (6, [.ref a0_items, .int v0_count, .ref a0_symbolCounts, .ref a0_distanceCounts])), (a0_items, .inl (cI, n0_items, .inl f0_items))] H → va_D A [(a0, .inr (6, [.ref a0_items, .int v0_count, .ref a0_symbolCounts, .ref a0_distanceCounts])), (a0_items, .inl (cI, n0_items, .inl f0_items))] → va_S A s.heap H locs → lv_has ls 2 [(0, .ref a0), (1, .int x1)] → W p l e rm_Found_addItem s m args below meth c H locs 0 0 (q_Found_addItem below args s dC dI cI cB cZ A a0 a0_items a0_symbolCounts a0_distanceCounts N n0_items x) (F0 m 0 ls [])
def g_Found_addItem_0 (n0_items : Nat) (x1 : Int32) (f0_items : Nat → Int32) (v0_count : Int32) : Option ((Nat → Int32) × Int32) := (if (4096 : Int32) ≤ v0_count then some (f0_items, v0_count) else (if v0_count < 0 ∨ n0_items ≤ v0_count.toNatClampNeg then none else some (upd f0_items v0_count.toNatClampNeg x1, v0_count + (1 : Int32))))
set_option maxHeartbeats 4000000 in
set_option maxRecDepth 100000 in
theorem w_Found_addItem_0 {p : Program} {l : Launch} {e : Env} {s : State} {m : MethodId} {args : Array Value} {below : List Frame} {meth : Method} {c : Code} {dC : Nat → ClassId} {dI : Nat → Nat → Nat} {cI cB cZ : ClassId} {tS : Nat} {A : Nat → Prop} (C0 : gz_C p s m args meth c b_Found_addItem 2 none R_Found "addItem" gz_W A (dC, dI) vwCl [(cI, .int), (cB, .byte), (cZ, .boolean)] tS) (a0 : Nat) (a0_items : Nat) (a0_symbolCounts : Nat) (a0_distanceCounts : Nat) (N : Nat) (n0_items : Nat) (x : (Nat → Int32) × Int32) : t_Found_addItem_0 p l e s m args below meth c dC dI cI cB cZ tS A a0 a0_items a0_symbolCounts a0_distanceCounts N n0_items x (g_Found_addItem_0 n0_items) := by
  obtain ⟨hx, hb, hr, hml, hown, hin0, hts, hlocks, hA, hK, hE⟩ := id C0
  intro x1 f0_items v0_count h H locs ls hP hD hS hl
  rw [g_Found_addItem_0] at h
  refine lv_aload_n hx hb d_Found_addItem_0 rfl (lv_at hl 0 rfl) ?_
  refine va_get (D := (dC, dI)) (ci := 6) (v := .int v0_count) (C := R_Found) (T := F_Found) (N := 4) hx hb hts in_Found hown hK hP 0 rfl rfl 1 (by decide) (hts _ kw_48) (fun _ h9 => h9) rfl d_Found_addItem_1 ?_
  refine lv_sipush (v := (4096 : Int32)) hx hb d_Found_addItem_4 (by decide) ?_
  refine lv_icmp_ge (tgt := 30) hx hb d_Found_addItem_7 (by decide) (fun c1 => ?_) (fun c1 => ?_)
  · have h := gz_t h c1
    obtain rfl := Option.some.inj h
    exact W.vret hx hb hr (fun t ht hW => ⟨⟨(), rfl, trivial, by rw [ht]; exact hP.sub [0, 1] rfl, hD.sub [0, 1] (by decide) rfl⟩, hS.F ht⟩) hS.2.2 d_Found_addItem_30
  · have h := gz_f h c1
    refine lv_aload_n hx hb d_Found_addItem_10 rfl (lv_at hl 0 rfl) ?_
    refine va_get (D := (dC, dI)) (ci := 6) (v := .ref a0_items) (C := R_Found) (T := F_Found) (N := 4) hx hb hts in_Found hown hK hP 0 rfl rfl 0 (by decide) (hts _ kw_47) (fun _ h9 => h9) rfl d_Found_addItem_11 ?_
    refine lv_aload_n hx hb d_Found_addItem_14 rfl (lv_at hl 0 rfl) ?_
    refine va_get (D := (dC, dI)) (ci := 6) (v := .int v0_count) (C := R_Found) (T := F_Found) (N := 4) hx hb hts in_Found hown hK hP 0 rfl rfl 1 (by decide) (hts _ kw_48) (fun _ h9 => h9) rfl d_Found_addItem_15 ?_
    refine lv_iload_n hx hb d_Found_addItem_18 rfl (lv_at hl 1 rfl) ?_
    obtain ⟨hi2, h⟩ := gz_n h
    refine va_iast hx hb hK hP hD hS 1 0 rfl rfl hi2 d_Found_addItem_19 (fun H locs hP hD hS => ?_)
    have hP : va_P (dC, dI) vwCl [(a0, .inr (6, [.ref a0_items, .int v0_count, .ref a0_symbolCounts, .ref a0_distanceCounts])), (a0_items, .inl (cI, n0_items, .inl (upd f0_items v0_count.toNatClampNeg x1)))] H := hP
    have hD : va_D A [(a0, .inr (6, [.ref a0_items, .int v0_count, .ref a0_symbolCounts, .ref a0_distanceCounts])), (a0_items, .inl (cI, n0_items, .inl (upd f0_items v0_count.toNatClampNeg x1)))] := hD
    refine lv_aload_n hx hb d_Found_addItem_20 rfl (lv_at hl 0 rfl) ?_
    refine lv_dup hx hb d_Found_addItem_21 rfl ?_
    refine va_get (D := (dC, dI)) (ci := 6) (v := .int v0_count) (C := R_Found) (T := F_Found) (N := 4) hx hb hts in_Found hown hK hP 0 rfl rfl 1 (by decide) (hts _ kw_48) (fun _ h9 => h9) rfl d_Found_addItem_22 ?_
    refine lv_iconst (v := (1 : Int32)) hx hb d_Found_addItem_25 (by decide) ?_
    refine lv_iadd hx hb d_Found_addItem_26 ?_
    refine va_put (D := (dC, dI)) (ci := 6) (v := .int (v0_count + (1 : Int32))) (ty := .int) (C := R_Found) (T := F_Found) (N := 4) hx hb hts in_Found t_Found t_Found_ok n_Found hown hK hP hD hS 0 rfl rfl 1 (by decide) (hts _ kw_48) (fun _ h9 => h9) rfl (by decide +kernel) rfl rfl (Nat.le_of_ble_eq_true rfl) d_Found_addItem_27 (fun H locs hP hD hS => ?_)
    have hP : va_P (dC, dI) vwCl [(a0, .inr (6, [.ref a0_items, .int (v0_count + (1 : Int32)), .ref a0_symbolCounts, .ref a0_distanceCounts])), (a0_items, .inl (cI, n0_items, .inl (upd f0_items v0_count.toNatClampNeg x1)))] H := hP
    have hD : va_D A [(a0, .inr (6, [.ref a0_items, .int (v0_count + (1 : Int32)), .ref a0_symbolCounts, .ref a0_distanceCounts])), (a0_items, .inl (cI, n0_items, .inl (upd f0_items v0_count.toNatClampNeg x1)))] := hD
    obtain rfl := Option.some.inj h
    exact W.vret hx hb hr (fun t ht hW => ⟨⟨(), rfl, trivial, by rw [ht]; exact hP.sub [0, 1] rfl, hD.sub [0, 1] (by decide) rfl⟩, hS.F ht⟩) hS.2.2 d_Found_addItem_30
set_option maxHeartbeats 4000000 in
set_option maxRecDepth 100000 in
theorem c_Found_addItem (l : Launch) (dC : Nat → ClassId) (dI : Nat → Nat → Nat) (cI cB cZ : ClassId) (tS : Nat) (a0 : Nat) (a0_items : Nat) (a0_symbolCounts : Nat) (a0_distanceCounts : Nat) (sz : Nat) (N : Nat) (n0_items : Nat) (x1 : Int32) (f0_items : Nat → Int32) (v0_count : Int32) (x : (Nat → Int32) × Int32) (hf : (g_Found_addItem_0 n0_items x1 f0_items v0_count) = some x) : Met l y_Found_addItem w_Found_addItemS rm_Found_addItem (gz_Pc [.ref a0, .int x1] (dC, dI) vwCl [(cI, .int), (cB, .byte), (cZ, .boolean)] tS [(a0, .inr (6, [.ref a0_items, .int v0_count, .ref a0_symbolCounts, .ref a0_distanceCounts])), (a0_items, .inl (cI, n0_items, .inl f0_items))] sz) (va_Qv (fun (_ : Unit) => True) (gz_B (dC, dI) vwCl (va_A [(a0, .inr (6, [.ref a0_items, .int v0_count, .ref a0_symbolCounts, .ref a0_distanceCounts])), (a0_items, .inl (cI, n0_items, .inl f0_items))] sz) (e_Found_addItem dC dI cI cB cZ a0 a0_items a0_symbolCounts a0_distanceCounts N n0_items x)) (va_A [(a0, .inr (6, [.ref a0_items, .int v0_count, .ref a0_symbolCounts, .ref a0_distanceCounts])), (a0_items, .inl (cI, n0_items, .inl f0_items))] sz)) 0 0 (va_A [(a0, .inr (6, [.ref a0_items, .int v0_count, .ref a0_symbolCounts, .ref a0_distanceCounts])), (a0_items, .inl (cI, n0_items, .inl f0_items))] sz) := by
  refine Met.ofW (cc := b_Found_addItem) (maxL := 2) (ret := none) (by decide) rfl ?_
  intro p e s m args below meth c s₁ B hml hv
  obtain ⟨rfl, hsz, hP, hK, hD0, hE⟩ := hv
  subst hsz
  have hl := lv_entry ([.ref a0, .int x1]) (n := 2) (Nat.le_of_ble_eq_true rfl)
  rw [lg_entry_eq]
  generalize (lg_sl ([.ref a0, .int x1]) ++ List.replicate (2 - (lg_sl ([.ref a0, .int x1])).length) Slot.unset).toArray = ls at hl ⊢
  have C0 : gz_C p s m _ meth c b_Found_addItem 2 none R_Found "addItem" gz_W _ (dC, dI) vwCl [(cI, .int), (cB, .byte), (cZ, .boolean)] tS := ⟨B.exec, B.bytes, B.returns, hml, findClass_of_methodNamed B.named, (name_of_methodNamed B.named B.method).1, fun w h => atoms_spec (ws := w_Found_addItemS) B.pre w (List.mem_cons_of_mem _ h), B.notSynchronized, fun q h => Or.inr h, hK, hE⟩
  exact w_Found_addItem_0 C0 a0 a0_items a0_symbolCounts a0_distanceCounts N n0_items x x1 f0_items v0_count hf _ _ _ hP (hD0.self (sz := s.heap.size)) va_S.rf (lv_sub hl [0, 1] rfl)
