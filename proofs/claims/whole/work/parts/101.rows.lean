abbrev rm_Row_init : Room := { frames := 1, cells := 1, slots := 9000, locals := 12 }
abbrev e_Row_init (dC : Nat → ClassId) (dI : Nat → Nat → Nat) (cI cB cZ : ClassId) (a0 : Nat) (N : Nat) (x : Int32 × Int32) (u : Nat) : va_W := [(a0, .inr (1, [.ref u, .int x.1, .int x.2])), (u, .inl (cB, 9000, .inl (fun _ => 0)))]
abbrev q_Row_init (below : List Frame) (args : Array Value) (s : State) (dC : Nat → ClassId) (dI : Nat → Nat → Nat) (cI cB cZ : ClassId) (A : Nat → Prop) (a0 : Nat) (N : Nat) (x : Int32 × Int32) : State → Prop := MQ below (va_Qv (fun (_ : Nat) => True) (gz_B (dC, dI) vwCl A (e_Row_init dC dI cI cB cZ a0 N x)) A) args s 1 9000 A
def t_Row_init_0 (p : Program) (l : Launch) (e : Env) (s : State) (m : MethodId) (args : Array Value) (below : List Frame) (meth : Method) (c : Code) (dC : Nat → ClassId) (dI : Nat → Nat → Nat) (cI cB cZ : ClassId) (tS : Nat) (A : Nat → Prop) (a0 : Nat) (N : Nat) (x : Int32 × Int32) (F : Option (Int32 × Int32)) : Prop :=
  F = some x → ∀ (H : Heap) (locs : List Loc) (ls : Array Slot), va_P (dC, dI) vwCl [(a0, .inr (1, [.null, .int (0 : Int32), .int (0 : Int32)]))] H → va_D A [(a0, .inr (1, [.null, .int (0 : Int32), .int (0 : Int32)]))] → va_S A s.heap H locs → lv_has ls 1 [(0, .ref a0)] → W p l e rm_Row_init s m args below meth c H locs 0 0 (q_Row_init below args s dC dI cI cB cZ A a0 N x) (F0 m 0 ls [])
def g_Row_init_0 : Option (Int32 × Int32) := some ((0 : Int32), (0 : Int32))
set_option maxHeartbeats 4000000 in
set_option maxRecDepth 100000 in
theorem w_Row_init_0 {p : Program} {l : Launch} {e : Env} {s : State} {m : MethodId} {args : Array Value} {below : List Frame} {meth : Method} {c : Code} {dC : Nat → ClassId} {dI : Nat → Nat → Nat} {cI cB cZ : ClassId} {tS : Nat} {A : Nat → Prop} (C0 : gz_C p s m args meth c b_Row_init 1 none R_Row "<init>" gz_W A (dC, dI) vwCl [(cI, .int), (cB, .byte), (cZ, .boolean)] tS) (a0 : Nat) (N : Nat) (x : Int32 × Int32) : t_Row_init_0 p l e s m args below meth c dC dI cI cB cZ tS A a0 N x (g_Row_init_0) := by
  obtain ⟨hx, hb, hr, hml, hown, hin0, hts, hlocks, hA, hK, hE⟩ := id C0
  intro  h H locs ls hP hD hS hl
  rw [g_Row_init_0] at h
  refine lv_aload_n hx hb d_Row_init_0 rfl (lv_at hl 0 rfl) ?_
  refine W.objInit hx hb hown (hts _ kw_6) (hts _ kw_1) (hts _ kw_2) rfl (by rw [hml]; exact hl.1) rfl d_Row_init_1 (Nat.le_of_ble_eq_true rfl) (Nat.le_of_ble_eq_true rfl) ?_
  refine W.eq (g2 := F0 m 4 ls []) rfl ?_
  refine lv_aload_n hx hb d_Row_init_4 rfl (lv_at hl 0 rfl) ?_
  refine lv_sipush (v := (9000 : Int32)) hx hb d_Row_init_5 (by decide) ?_
  refine va_newa (atype := .byte) (a0 := (9000, .inl (fun _ => 0))) (N' := 9000) (ty := .byte) hx hb (hts _ kw_7) rfl hK hP hD hS hA (fun _ => rfl) (by decide) rfl (by decide) (Nat.le_of_ble_eq_true rfl) (Nat.le_of_ble_eq_true rfl) d_Row_init_8 (fun aq8 cN H hKn hP hD hS => ?_)
  have eN := gz_sameB hKn 1 3 rfl rfl
  subst eN
  have hP : va_P (dC, dI) vwCl [(a0, .inr (1, [.null, .int (0 : Int32), .int (0 : Int32)])), (aq8, .inl (cB, 9000, .inl (fun _ => 0)))] H := hP
  have hD : va_D A [(a0, .inr (1, [.null, .int (0 : Int32), .int (0 : Int32)])), (aq8, .inl (cB, 9000, .inl (fun _ => 0)))] := hD
  refine va_putF (D := (dC, dI)) (ci := 1) (v := .ref aq8) (ty := .array .byte) (C := R_Row) (T := F_Row) (N := 3) hx hb hts in_Row t_Row t_Row_ok n_Row hown hK hP hD hS 0 rfl rfl 0 (by decide) (hts _ kw_8) (fun _ h9 => h9) rfl hin0 rfl (by decide +kernel) rfl rfl (Nat.le_of_ble_eq_true rfl) d_Row_init_10 (fun H locs hP hD hS => ?_)
  have hP : va_P (dC, dI) vwCl [(a0, .inr (1, [.ref aq8, .int (0 : Int32), .int (0 : Int32)])), (aq8, .inl (cB, 9000, .inl (fun _ => 0)))] H := hP
  have hD : va_D A [(a0, .inr (1, [.ref aq8, .int (0 : Int32), .int (0 : Int32)])), (aq8, .inl (cB, 9000, .inl (fun _ => 0)))] := hD
  refine lv_aload_n hx hb d_Row_init_13 rfl (lv_at hl 0 rfl) ?_
  refine lv_iconst (v := (0 : Int32)) hx hb d_Row_init_14 (by decide) ?_
  refine va_put (D := (dC, dI)) (ci := 1) (v := .int (0 : Int32)) (ty := .int) (C := R_Row) (T := F_Row) (N := 3) hx hb hts in_Row t_Row t_Row_ok n_Row hown hK hP hD hS 0 rfl rfl 1 (by decide) (hts _ kw_9) (fun _ h9 => h9) rfl (by decide +kernel) rfl rfl (Nat.le_of_ble_eq_true rfl) d_Row_init_15 (fun H locs hP hD hS => ?_)
  have hP : va_P (dC, dI) vwCl [(a0, .inr (1, [.ref aq8, .int (0 : Int32), .int (0 : Int32)])), (aq8, .inl (cB, 9000, .inl (fun _ => 0)))] H := hP
  have hD : va_D A [(a0, .inr (1, [.ref aq8, .int (0 : Int32), .int (0 : Int32)])), (aq8, .inl (cB, 9000, .inl (fun _ => 0)))] := hD
  refine lv_aload_n hx hb d_Row_init_18 rfl (lv_at hl 0 rfl) ?_
  refine lv_iconst (v := (0 : Int32)) hx hb d_Row_init_19 (by decide) ?_
  refine va_put (D := (dC, dI)) (ci := 1) (v := .int (0 : Int32)) (ty := .int) (C := R_Row) (T := F_Row) (N := 3) hx hb hts in_Row t_Row t_Row_ok n_Row hown hK hP hD hS 0 rfl rfl 2 (by decide) (hts _ kw_10) (fun _ h9 => h9) rfl (by decide +kernel) rfl rfl (Nat.le_of_ble_eq_true rfl) d_Row_init_20 (fun H locs hP hD hS => ?_)
  have hP : va_P (dC, dI) vwCl [(a0, .inr (1, [.ref aq8, .int (0 : Int32), .int (0 : Int32)])), (aq8, .inl (cB, 9000, .inl (fun _ => 0)))] H := hP
  have hD : va_D A [(a0, .inr (1, [.ref aq8, .int (0 : Int32), .int (0 : Int32)])), (aq8, .inl (cB, 9000, .inl (fun _ => 0)))] := hD
  obtain rfl := Option.some.inj h
  exact W.vret hx hb hr (fun t ht hW => ⟨⟨aq8, rfl, trivial, by rw [ht]; exact hP.sub [0, 1] rfl, hD.sub [0, 1] (by decide) rfl⟩, hS.F ht⟩) hS.2.2 d_Row_init_23
set_option maxHeartbeats 4000000 in
set_option maxRecDepth 100000 in
theorem c_Row_init (l : Launch) (dC : Nat → ClassId) (dI : Nat → Nat → Nat) (cI cB cZ : ClassId) (tS : Nat) (a0 : Nat) (sz : Nat) (N : Nat) (x : Int32 × Int32) (hf : (g_Row_init_0) = some x) : Met l y_Row_init w_Row_initS rm_Row_init (gz_Pc [.ref a0] (dC, dI) vwCl [(cI, .int), (cB, .byte), (cZ, .boolean)] tS [(a0, .inr (1, [.null, .int (0 : Int32), .int (0 : Int32)]))] sz) (va_Qv (fun (_ : Nat) => True) (gz_B (dC, dI) vwCl (va_A [(a0, .inr (1, [.null, .int (0 : Int32), .int (0 : Int32)]))] sz) (e_Row_init dC dI cI cB cZ a0 N x)) (va_A [(a0, .inr (1, [.null, .int (0 : Int32), .int (0 : Int32)]))] sz)) 1 9000 (va_A [(a0, .inr (1, [.null, .int (0 : Int32), .int (0 : Int32)]))] sz) := by
  refine Met.ofW (cc := b_Row_init) (maxL := 1) (ret := none) (by decide) rfl ?_
  intro p e s m args below meth c s₁ B hml hv
  obtain ⟨rfl, hsz, hP, hK, hD0, hE⟩ := hv
  subst hsz
  have hl := lv_entry ([.ref a0]) (n := 1) (Nat.le_of_ble_eq_true rfl)
  rw [lg_entry_eq]
  generalize (lg_sl ([.ref a0]) ++ List.replicate (1 - (lg_sl ([.ref a0])).length) Slot.unset).toArray = ls at hl ⊢
  have C0 : gz_C p s m _ meth c b_Row_init 1 none R_Row "<init>" gz_W _ (dC, dI) vwCl [(cI, .int), (cB, .byte), (cZ, .boolean)] tS := ⟨B.exec, B.bytes, B.returns, hml, findClass_of_methodNamed B.named, (name_of_methodNamed B.named B.method).1, fun w h => atoms_spec (ws := w_Row_initS) B.pre w (List.mem_cons_of_mem _ h), B.notSynchronized, fun q h => Or.inr h, hK, hE⟩
  exact w_Row_init_0 C0 a0 N x  hf _ _ _ hP (hD0.self (sz := s.heap.size)) va_S.rf (lv_sub hl [0] rfl)
abbrev rm_Matcher_init : Room := { frames := 1, cells := 3, slots := 16641, locals := 12 }
abbrev e_Matcher_init (dC : Nat → ClassId) (dI : Nat → Nat → Nat) (cI cB cZ : ClassId) (a0 : Nat) (N : Nat) (x : Int32 × Int32) (u : Nat × Nat × Nat) : va_W := [(a0, .inr (4, [.ref u.1, .ref u.2.1, .ref u.2.2, .int x.1, .int x.2])), (u.1, .inl (cI, 8192, .inl (fun _ => 0))), (u.2.1, .inl (cI, 8192, .inl (fun _ => 0))), (u.2.2, .inl (cI, 257, .inl (fun _ => 0)))]
abbrev q_Matcher_init (below : List Frame) (args : Array Value) (s : State) (dC : Nat → ClassId) (dI : Nat → Nat → Nat) (cI cB cZ : ClassId) (A : Nat → Prop) (a0 : Nat) (N : Nat) (x : Int32 × Int32) : State → Prop := MQ below (va_Qv (fun (_ : Nat × Nat × Nat) => True) (gz_B (dC, dI) vwCl A (e_Matcher_init dC dI cI cB cZ a0 N x)) A) args s 3 16641 A
def t_Matcher_init_0 (p : Program) (l : Launch) (e : Env) (s : State) (m : MethodId) (args : Array Value) (below : List Frame) (meth : Method) (c : Code) (dC : Nat → ClassId) (dI : Nat → Nat → Nat) (cI cB cZ : ClassId) (tS : Nat) (A : Nat → Prop) (a0 : Nat) (N : Nat) (x : Int32 × Int32) (F : Option (Int32 × Int32)) : Prop :=
  F = some x → ∀ (H : Heap) (locs : List Loc) (ls : Array Slot), va_P (dC, dI) vwCl [(a0, .inr (4, [.null, .null, .null, .int (0 : Int32), .int (0 : Int32)]))] H → va_D A [(a0, .inr (4, [.null, .null, .null, .int (0 : Int32), .int (0 : Int32)]))] → va_S A s.heap H locs → lv_has ls 1 [(0, .ref a0)] → W p l e rm_Matcher_init s m args below meth c H locs 0 0 (q_Matcher_init below args s dC dI cI cB cZ A a0 N x) (F0 m 0 ls [])
def g_Matcher_init_0 : Option (Int32 × Int32) := some ((0 : Int32), (0 : Int32))
set_option maxHeartbeats 4000000 in
set_option maxRecDepth 100000 in
theorem w_Matcher_init_0 {p : Program} {l : Launch} {e : Env} {s : State} {m : MethodId} {args : Array Value} {below : List Frame} {meth : Method} {c : Code} {dC : Nat → ClassId} {dI : Nat → Nat → Nat} {cI cB cZ : ClassId} {tS : Nat} {A : Nat → Prop} (C0 : gz_C p s m args meth c b_Matcher_init 1 none R_Matcher "<init>" gz_W A (dC, dI) vwCl [(cI, .int), (cB, .byte), (cZ, .boolean)] tS) (a0 : Nat) (N : Nat) (x : Int32 × Int32) : t_Matcher_init_0 p l e s m args below meth c dC dI cI cB cZ tS A a0 N x (g_Matcher_init_0) := by
  obtain ⟨hx, hb, hr, hml, hown, hin0, hts, hlocks, hA, hK, hE⟩ := id C0
  intro  h H locs ls hP hD hS hl
  rw [g_Matcher_init_0] at h
  refine lv_aload_n hx hb d_Matcher_init_0 rfl (lv_at hl 0 rfl) ?_
  refine W.objInit hx hb hown (hts _ kw_22) (hts _ kw_1) (hts _ kw_2) rfl (by rw [hml]; exact hl.1) rfl d_Matcher_init_1 (Nat.le_of_ble_eq_true rfl) (Nat.le_of_ble_eq_true rfl) ?_
  refine W.eq (g2 := F0 m 4 ls []) rfl ?_
  refine lv_aload_n hx hb d_Matcher_init_4 rfl (lv_at hl 0 rfl) ?_
  refine lv_sipush (v := (8192 : Int32)) hx hb d_Matcher_init_5 (by decide) ?_
  refine va_newa (atype := .int) (a0 := (8192, .inl (fun _ => 0))) (N' := 8192) (ty := .int) hx hb (hts _ kw_23) rfl hK hP hD hS hA (fun _ => rfl) (by decide) rfl (by decide) (Nat.le_of_ble_eq_true rfl) (Nat.le_of_ble_eq_true rfl) d_Matcher_init_8 (fun aq8 cN H hKn hP hD hS => ?_)
  have eN := gz_sameI hKn 0 3 rfl rfl
  subst eN
  have hP : va_P (dC, dI) vwCl [(a0, .inr (4, [.null, .null, .null, .int (0 : Int32), .int (0 : Int32)])), (aq8, .inl (cI, 8192, .inl (fun _ => 0)))] H := hP
  have hD : va_D A [(a0, .inr (4, [.null, .null, .null, .int (0 : Int32), .int (0 : Int32)])), (aq8, .inl (cI, 8192, .inl (fun _ => 0)))] := hD
  refine va_putF (D := (dC, dI)) (ci := 4) (v := .ref aq8) (ty := .array .int) (C := R_Matcher) (T := F_Matcher) (N := 5) hx hb hts in_Matcher t_Matcher t_Matcher_ok n_Matcher hown hK hP hD hS 0 rfl rfl 0 (by decide) (hts _ kw_24) (fun _ h9 => h9) rfl hin0 rfl (by decide +kernel) rfl rfl (Nat.le_of_ble_eq_true rfl) d_Matcher_init_10 (fun H locs hP hD hS => ?_)
  have hP : va_P (dC, dI) vwCl [(a0, .inr (4, [.ref aq8, .null, .null, .int (0 : Int32), .int (0 : Int32)])), (aq8, .inl (cI, 8192, .inl (fun _ => 0)))] H := hP
  have hD : va_D A [(a0, .inr (4, [.ref aq8, .null, .null, .int (0 : Int32), .int (0 : Int32)])), (aq8, .inl (cI, 8192, .inl (fun _ => 0)))] := hD
  refine lv_aload_n hx hb d_Matcher_init_13 rfl (lv_at hl 0 rfl) ?_
  refine lv_sipush (v := (8192 : Int32)) hx hb d_Matcher_init_14 (by decide) ?_
  refine va_newa (atype := .int) (a0 := (8192, .inl (fun _ => 0))) (N' := 8192) (ty := .int) hx hb (hts _ kw_23) rfl hK hP hD hS hA (fun _ => rfl) (by decide) rfl (by decide) (Nat.le_of_ble_eq_true rfl) (Nat.le_of_ble_eq_true rfl) d_Matcher_init_17 (fun aq17 cN H hKn hP hD hS => ?_)
  have eN := gz_sameI hKn 0 3 rfl rfl
  subst eN
  have hP : va_P (dC, dI) vwCl [(a0, .inr (4, [.ref aq8, .null, .null, .int (0 : Int32), .int (0 : Int32)])), (aq8, .inl (cI, 8192, .inl (fun _ => 0))), (aq17, .inl (cI, 8192, .inl (fun _ => 0)))] H := hP
  have hD : va_D A [(a0, .inr (4, [.ref aq8, .null, .null, .int (0 : Int32), .int (0 : Int32)])), (aq8, .inl (cI, 8192, .inl (fun _ => 0))), (aq17, .inl (cI, 8192, .inl (fun _ => 0)))] := hD
  refine va_putF (D := (dC, dI)) (ci := 4) (v := .ref aq17) (ty := .array .int) (C := R_Matcher) (T := F_Matcher) (N := 5) hx hb hts in_Matcher t_Matcher t_Matcher_ok n_Matcher hown hK hP hD hS 0 rfl rfl 1 (by decide) (hts _ kw_25) (fun _ h9 => h9) rfl hin0 rfl (by decide +kernel) rfl rfl (Nat.le_of_ble_eq_true rfl) d_Matcher_init_19 (fun H locs hP hD hS => ?_)
  have hP : va_P (dC, dI) vwCl [(a0, .inr (4, [.ref aq8, .ref aq17, .null, .int (0 : Int32), .int (0 : Int32)])), (aq8, .inl (cI, 8192, .inl (fun _ => 0))), (aq17, .inl (cI, 8192, .inl (fun _ => 0)))] H := hP
  have hD : va_D A [(a0, .inr (4, [.ref aq8, .ref aq17, .null, .int (0 : Int32), .int (0 : Int32)])), (aq8, .inl (cI, 8192, .inl (fun _ => 0))), (aq17, .inl (cI, 8192, .inl (fun _ => 0)))] := hD
  refine lv_aload_n hx hb d_Matcher_init_22 rfl (lv_at hl 0 rfl) ?_
  refine lv_sipush (v := (257 : Int32)) hx hb d_Matcher_init_23 (by decide) ?_
  refine va_newa (atype := .int) (a0 := (257, .inl (fun _ => 0))) (N' := 257) (ty := .int) hx hb (hts _ kw_23) rfl hK hP hD hS hA (fun _ => rfl) (by decide) rfl (by decide) (Nat.le_of_ble_eq_true rfl) (Nat.le_of_ble_eq_true rfl) d_Matcher_init_26 (fun aq26 cN H hKn hP hD hS => ?_)
  have eN := gz_sameI hKn 0 3 rfl rfl
  subst eN
  have hP : va_P (dC, dI) vwCl [(a0, .inr (4, [.ref aq8, .ref aq17, .null, .int (0 : Int32), .int (0 : Int32)])), (aq8, .inl (cI, 8192, .inl (fun _ => 0))), (aq17, .inl (cI, 8192, .inl (fun _ => 0))), (aq26, .inl (cI, 257, .inl (fun _ => 0)))] H := hP
  have hD : va_D A [(a0, .inr (4, [.ref aq8, .ref aq17, .null, .int (0 : Int32), .int (0 : Int32)])), (aq8, .inl (cI, 8192, .inl (fun _ => 0))), (aq17, .inl (cI, 8192, .inl (fun _ => 0))), (aq26, .inl (cI, 257, .inl (fun _ => 0)))] := hD
  refine va_putF (D := (dC, dI)) (ci := 4) (v := .ref aq26) (ty := .array .int) (C := R_Matcher) (T := F_Matcher) (N := 5) hx hb hts in_Matcher t_Matcher t_Matcher_ok n_Matcher hown hK hP hD hS 0 rfl rfl 2 (by decide) (hts _ kw_26) (fun _ h9 => h9) rfl hin0 rfl (by decide +kernel) rfl rfl (Nat.le_of_ble_eq_true rfl) d_Matcher_init_28 (fun H locs hP hD hS => ?_)
  have hP : va_P (dC, dI) vwCl [(a0, .inr (4, [.ref aq8, .ref aq17, .ref aq26, .int (0 : Int32), .int (0 : Int32)])), (aq8, .inl (cI, 8192, .inl (fun _ => 0))), (aq17, .inl (cI, 8192, .inl (fun _ => 0))), (aq26, .inl (cI, 257, .inl (fun _ => 0)))] H := hP
  have hD : va_D A [(a0, .inr (4, [.ref aq8, .ref aq17, .ref aq26, .int (0 : Int32), .int (0 : Int32)])), (aq8, .inl (cI, 8192, .inl (fun _ => 0))), (aq17, .inl (cI, 8192, .inl (fun _ => 0))), (aq26, .inl (cI, 257, .inl (fun _ => 0)))] := hD
  refine lv_aload_n hx hb d_Matcher_init_31 rfl (lv_at hl 0 rfl) ?_
  refine lv_iconst (v := (0 : Int32)) hx hb d_Matcher_init_32 (by decide) ?_
  refine va_put (D := (dC, dI)) (ci := 4) (v := .int (0 : Int32)) (ty := .int) (C := R_Matcher) (T := F_Matcher) (N := 5) hx hb hts in_Matcher t_Matcher t_Matcher_ok n_Matcher hown hK hP hD hS 0 rfl rfl 3 (by decide) (hts _ kw_27) (fun _ h9 => h9) rfl (by decide +kernel) rfl rfl (Nat.le_of_ble_eq_true rfl) d_Matcher_init_33 (fun H locs hP hD hS => ?_)
  have hP : va_P (dC, dI) vwCl [(a0, .inr (4, [.ref aq8, .ref aq17, .ref aq26, .int (0 : Int32), .int (0 : Int32)])), (aq8, .inl (cI, 8192, .inl (fun _ => 0))), (aq17, .inl (cI, 8192, .inl (fun _ => 0))), (aq26, .inl (cI, 257, .inl (fun _ => 0)))] H := hP
  have hD : va_D A [(a0, .inr (4, [.ref aq8, .ref aq17, .ref aq26, .int (0 : Int32), .int (0 : Int32)])), (aq8, .inl (cI, 8192, .inl (fun _ => 0))), (aq17, .inl (cI, 8192, .inl (fun _ => 0))), (aq26, .inl (cI, 257, .inl (fun _ => 0)))] := hD
  refine lv_aload_n hx hb d_Matcher_init_36 rfl (lv_at hl 0 rfl) ?_
  refine lv_iconst (v := (0 : Int32)) hx hb d_Matcher_init_37 (by decide) ?_
  refine va_put (D := (dC, dI)) (ci := 4) (v := .int (0 : Int32)) (ty := .int) (C := R_Matcher) (T := F_Matcher) (N := 5) hx hb hts in_Matcher t_Matcher t_Matcher_ok n_Matcher hown hK hP hD hS 0 rfl rfl 4 (by decide) (hts _ kw_28) (fun _ h9 => h9) rfl (by decide +kernel) rfl rfl (Nat.le_of_ble_eq_true rfl) d_Matcher_init_38 (fun H locs hP hD hS => ?_)
  have hP : va_P (dC, dI) vwCl [(a0, .inr (4, [.ref aq8, .ref aq17, .ref aq26, .int (0 : Int32), .int (0 : Int32)])), (aq8, .inl (cI, 8192, .inl (fun _ => 0))), (aq17, .inl (cI, 8192, .inl (fun _ => 0))), (aq26, .inl (cI, 257, .inl (fun _ => 0)))] H := hP
  have hD : va_D A [(a0, .inr (4, [.ref aq8, .ref aq17, .ref aq26, .int (0 : Int32), .int (0 : Int32)])), (aq8, .inl (cI, 8192, .inl (fun _ => 0))), (aq17, .inl (cI, 8192, .inl (fun _ => 0))), (aq26, .inl (cI, 257, .inl (fun _ => 0)))] := hD
  obtain rfl := Option.some.inj h
  exact W.vret hx hb hr (fun t ht hW => ⟨⟨⟨aq8, aq17, aq26⟩, rfl, trivial, by rw [ht]; exact hP.sub [0, 1, 2, 3] rfl, hD.sub [0, 1, 2, 3] (by decide) rfl⟩, hS.F ht⟩) hS.2.2 d_Matcher_init_41
set_option maxHeartbeats 4000000 in
set_option maxRecDepth 100000 in
theorem c_Matcher_init (l : Launch) (dC : Nat → ClassId) (dI : Nat → Nat → Nat) (cI cB cZ : ClassId) (tS : Nat) (a0 : Nat) (sz : Nat) (N : Nat) (x : Int32 × Int32) (hf : (g_Matcher_init_0) = some x) : Met l y_Matcher_init w_Matcher_initS rm_Matcher_init (gz_Pc [.ref a0] (dC, dI) vwCl [(cI, .int), (cB, .byte), (cZ, .boolean)] tS [(a0, .inr (4, [.null, .null, .null, .int (0 : Int32), .int (0 : Int32)]))] sz) (va_Qv (fun (_ : Nat × Nat × Nat) => True) (gz_B (dC, dI) vwCl (va_A [(a0, .inr (4, [.null, .null, .null, .int (0 : Int32), .int (0 : Int32)]))] sz) (e_Matcher_init dC dI cI cB cZ a0 N x)) (va_A [(a0, .inr (4, [.null, .null, .null, .int (0 : Int32), .int (0 : Int32)]))] sz)) 3 16641 (va_A [(a0, .inr (4, [.null, .null, .null, .int (0 : Int32), .int (0 : Int32)]))] sz) := by
  refine Met.ofW (cc := b_Matcher_init) (maxL := 1) (ret := none) (by decide) rfl ?_
  intro p e s m args below meth c s₁ B hml hv
  obtain ⟨rfl, hsz, hP, hK, hD0, hE⟩ := hv
  subst hsz
  have hl := lv_entry ([.ref a0]) (n := 1) (Nat.le_of_ble_eq_true rfl)
  rw [lg_entry_eq]
  generalize (lg_sl ([.ref a0]) ++ List.replicate (1 - (lg_sl ([.ref a0])).length) Slot.unset).toArray = ls at hl ⊢
  have C0 : gz_C p s m _ meth c b_Matcher_init 1 none R_Matcher "<init>" gz_W _ (dC, dI) vwCl [(cI, .int), (cB, .byte), (cZ, .boolean)] tS := ⟨B.exec, B.bytes, B.returns, hml, findClass_of_methodNamed B.named, (name_of_methodNamed B.named B.method).1, fun w h => atoms_spec (ws := w_Matcher_initS) B.pre w (List.mem_cons_of_mem _ h), B.notSynchronized, fun q h => Or.inr h, hK, hE⟩
  exact w_Matcher_init_0 C0 a0 N x  hf _ _ _ hP (hD0.self (sz := s.heap.size)) va_S.rf (lv_sub hl [0] rfl)
abbrev rm_LengthMaker_init : Room := { frames := 1, cells := 4, slots := 2002, locals := 12 }
abbrev e_LengthMaker_init (dC : Nat → ClassId) (dI : Nat → Nat → Nat) (cI cB cZ : ClassId) (a0 : Nat) (N : Nat) (x : Unit) (u : Nat × Nat × Nat × Nat) : va_W := [(a0, .inr (5, [.ref u.1, .ref u.2.1, .ref u.2.2.1, .ref u.2.2.2])), (u.1, .inl (cI, 286, .inl (fun _ => 0))), (u.2.1, .inl (cI, 572, .inl (fun _ => 0))), (u.2.2.1, .inl (cI, 572, .inl (fun _ => 0))), (u.2.2.2, .inl (cI, 572, .inl (fun _ => 0)))]
abbrev q_LengthMaker_init (below : List Frame) (args : Array Value) (s : State) (dC : Nat → ClassId) (dI : Nat → Nat → Nat) (cI cB cZ : ClassId) (A : Nat → Prop) (a0 : Nat) (N : Nat) (x : Unit) : State → Prop := MQ below (va_Qv (fun (_ : Nat × Nat × Nat × Nat) => True) (gz_B (dC, dI) vwCl A (e_LengthMaker_init dC dI cI cB cZ a0 N x)) A) args s 4 2002 A
def t_LengthMaker_init_0 (p : Program) (l : Launch) (e : Env) (s : State) (m : MethodId) (args : Array Value) (below : List Frame) (meth : Method) (c : Code) (dC : Nat → ClassId) (dI : Nat → Nat → Nat) (cI cB cZ : ClassId) (tS : Nat) (A : Nat → Prop) (a0 : Nat) (N : Nat) (x : Unit) (F : Option (Unit)) : Prop :=
  F = some x → ∀ (H : Heap) (locs : List Loc) (ls : Array Slot), va_P (dC, dI) vwCl [(a0, .inr (5, [.null, .null, .null, .null]))] H → va_D A [(a0, .inr (5, [.null, .null, .null, .null]))] → va_S A s.heap H locs → lv_has ls 1 [(0, .ref a0)] → W p l e rm_LengthMaker_init s m args below meth c H locs 0 0 (q_LengthMaker_init below args s dC dI cI cB cZ A a0 N x) (F0 m 0 ls [])
def g_LengthMaker_init_0 : Option (Unit) := some ()
set_option maxHeartbeats 4000000 in
set_option maxRecDepth 100000 in
theorem w_LengthMaker_init_0 {p : Program} {l : Launch} {e : Env} {s : State} {m : MethodId} {args : Array Value} {below : List Frame} {meth : Method} {c : Code} {dC : Nat → ClassId} {dI : Nat → Nat → Nat} {cI cB cZ : ClassId} {tS : Nat} {A : Nat → Prop} (C0 : gz_C p s m args meth c b_LengthMaker_init 1 none R_LengthMaker "<init>" gz_W A (dC, dI) vwCl [(cI, .int), (cB, .byte), (cZ, .boolean)] tS) (a0 : Nat) (N : Nat) (x : Unit) : t_LengthMaker_init_0 p l e s m args below meth c dC dI cI cB cZ tS A a0 N x (g_LengthMaker_init_0) := by
  obtain ⟨hx, hb, hr, hml, hown, hin0, hts, hlocks, hA, hK, hE⟩ := id C0
  intro  h H locs ls hP hD hS hl
  rw [g_LengthMaker_init_0] at h
  refine lv_aload_n hx hb d_LengthMaker_init_0 rfl (lv_at hl 0 rfl) ?_
  refine W.objInit hx hb hown (hts _ kw_35) (hts _ kw_1) (hts _ kw_2) rfl (by rw [hml]; exact hl.1) rfl d_LengthMaker_init_1 (Nat.le_of_ble_eq_true rfl) (Nat.le_of_ble_eq_true rfl) ?_
  refine W.eq (g2 := F0 m 4 ls []) rfl ?_
  refine lv_aload_n hx hb d_LengthMaker_init_4 rfl (lv_at hl 0 rfl) ?_
  refine lv_sipush (v := (286 : Int32)) hx hb d_LengthMaker_init_5 (by decide) ?_
  refine va_newa (atype := .int) (a0 := (286, .inl (fun _ => 0))) (N' := 286) (ty := .int) hx hb (hts _ kw_23) rfl hK hP hD hS hA (fun _ => rfl) (by decide) rfl (by decide) (Nat.le_of_ble_eq_true rfl) (Nat.le_of_ble_eq_true rfl) d_LengthMaker_init_8 (fun aq8 cN H hKn hP hD hS => ?_)
  have eN := gz_sameI hKn 0 3 rfl rfl
  subst eN
  have hP : va_P (dC, dI) vwCl [(a0, .inr (5, [.null, .null, .null, .null])), (aq8, .inl (cI, 286, .inl (fun _ => 0)))] H := hP
  have hD : va_D A [(a0, .inr (5, [.null, .null, .null, .null])), (aq8, .inl (cI, 286, .inl (fun _ => 0)))] := hD
  refine va_putF (D := (dC, dI)) (ci := 5) (v := .ref aq8) (ty := .array .int) (C := R_LengthMaker) (T := F_LengthMaker) (N := 4) hx hb hts in_LengthMaker t_LengthMaker t_LengthMaker_ok n_LengthMaker hown hK hP hD hS 0 rfl rfl 0 (by decide) (hts _ kw_36) (fun _ h9 => h9) rfl hin0 rfl (by decide +kernel) rfl rfl (Nat.le_of_ble_eq_true rfl) d_LengthMaker_init_10 (fun H locs hP hD hS => ?_)
  have hP : va_P (dC, dI) vwCl [(a0, .inr (5, [.ref aq8, .null, .null, .null])), (aq8, .inl (cI, 286, .inl (fun _ => 0)))] H := hP
  have hD : va_D A [(a0, .inr (5, [.ref aq8, .null, .null, .null])), (aq8, .inl (cI, 286, .inl (fun _ => 0)))] := hD
  refine lv_aload_n hx hb d_LengthMaker_init_13 rfl (lv_at hl 0 rfl) ?_
  refine lv_sipush (v := (572 : Int32)) hx hb d_LengthMaker_init_14 (by decide) ?_
  refine va_newa (atype := .int) (a0 := (572, .inl (fun _ => 0))) (N' := 572) (ty := .int) hx hb (hts _ kw_23) rfl hK hP hD hS hA (fun _ => rfl) (by decide) rfl (by decide) (Nat.le_of_ble_eq_true rfl) (Nat.le_of_ble_eq_true rfl) d_LengthMaker_init_17 (fun aq17 cN H hKn hP hD hS => ?_)
  have eN := gz_sameI hKn 0 3 rfl rfl
  subst eN
  have hP : va_P (dC, dI) vwCl [(a0, .inr (5, [.ref aq8, .null, .null, .null])), (aq8, .inl (cI, 286, .inl (fun _ => 0))), (aq17, .inl (cI, 572, .inl (fun _ => 0)))] H := hP
  have hD : va_D A [(a0, .inr (5, [.ref aq8, .null, .null, .null])), (aq8, .inl (cI, 286, .inl (fun _ => 0))), (aq17, .inl (cI, 572, .inl (fun _ => 0)))] := hD
  refine va_putF (D := (dC, dI)) (ci := 5) (v := .ref aq17) (ty := .array .int) (C := R_LengthMaker) (T := F_LengthMaker) (N := 4) hx hb hts in_LengthMaker t_LengthMaker t_LengthMaker_ok n_LengthMaker hown hK hP hD hS 0 rfl rfl 1 (by decide) (hts _ kw_37) (fun _ h9 => h9) rfl hin0 rfl (by decide +kernel) rfl rfl (Nat.le_of_ble_eq_true rfl) d_LengthMaker_init_19 (fun H locs hP hD hS => ?_)
  have hP : va_P (dC, dI) vwCl [(a0, .inr (5, [.ref aq8, .ref aq17, .null, .null])), (aq8, .inl (cI, 286, .inl (fun _ => 0))), (aq17, .inl (cI, 572, .inl (fun _ => 0)))] H := hP
  have hD : va_D A [(a0, .inr (5, [.ref aq8, .ref aq17, .null, .null])), (aq8, .inl (cI, 286, .inl (fun _ => 0))), (aq17, .inl (cI, 572, .inl (fun _ => 0)))] := hD
  refine lv_aload_n hx hb d_LengthMaker_init_22 rfl (lv_at hl 0 rfl) ?_
  refine lv_sipush (v := (572 : Int32)) hx hb d_LengthMaker_init_23 (by decide) ?_
  refine va_newa (atype := .int) (a0 := (572, .inl (fun _ => 0))) (N' := 572) (ty := .int) hx hb (hts _ kw_23) rfl hK hP hD hS hA (fun _ => rfl) (by decide) rfl (by decide) (Nat.le_of_ble_eq_true rfl) (Nat.le_of_ble_eq_true rfl) d_LengthMaker_init_26 (fun aq26 cN H hKn hP hD hS => ?_)
  have eN := gz_sameI hKn 0 3 rfl rfl
  subst eN
  have hP : va_P (dC, dI) vwCl [(a0, .inr (5, [.ref aq8, .ref aq17, .null, .null])), (aq8, .inl (cI, 286, .inl (fun _ => 0))), (aq17, .inl (cI, 572, .inl (fun _ => 0))), (aq26, .inl (cI, 572, .inl (fun _ => 0)))] H := hP
  have hD : va_D A [(a0, .inr (5, [.ref aq8, .ref aq17, .null, .null])), (aq8, .inl (cI, 286, .inl (fun _ => 0))), (aq17, .inl (cI, 572, .inl (fun _ => 0))), (aq26, .inl (cI, 572, .inl (fun _ => 0)))] := hD
  refine va_putF (D := (dC, dI)) (ci := 5) (v := .ref aq26) (ty := .array .int) (C := R_LengthMaker) (T := F_LengthMaker) (N := 4) hx hb hts in_LengthMaker t_LengthMaker t_LengthMaker_ok n_LengthMaker hown hK hP hD hS 0 rfl rfl 2 (by decide) (hts _ kw_38) (fun _ h9 => h9) rfl hin0 rfl (by decide +kernel) rfl rfl (Nat.le_of_ble_eq_true rfl) d_LengthMaker_init_28 (fun H locs hP hD hS => ?_)
  have hP : va_P (dC, dI) vwCl [(a0, .inr (5, [.ref aq8, .ref aq17, .ref aq26, .null])), (aq8, .inl (cI, 286, .inl (fun _ => 0))), (aq17, .inl (cI, 572, .inl (fun _ => 0))), (aq26, .inl (cI, 572, .inl (fun _ => 0)))] H := hP
  have hD : va_D A [(a0, .inr (5, [.ref aq8, .ref aq17, .ref aq26, .null])), (aq8, .inl (cI, 286, .inl (fun _ => 0))), (aq17, .inl (cI, 572, .inl (fun _ => 0))), (aq26, .inl (cI, 572, .inl (fun _ => 0)))] := hD
  refine lv_aload_n hx hb d_LengthMaker_init_31 rfl (lv_at hl 0 rfl) ?_
  refine lv_sipush (v := (572 : Int32)) hx hb d_LengthMaker_init_32 (by decide) ?_
  refine va_newa (atype := .int) (a0 := (572, .inl (fun _ => 0))) (N' := 572) (ty := .int) hx hb (hts _ kw_23) rfl hK hP hD hS hA (fun _ => rfl) (by decide) rfl (by decide) (Nat.le_of_ble_eq_true rfl) (Nat.le_of_ble_eq_true rfl) d_LengthMaker_init_35 (fun aq35 cN H hKn hP hD hS => ?_)
  have eN := gz_sameI hKn 0 3 rfl rfl
  subst eN
  have hP : va_P (dC, dI) vwCl [(a0, .inr (5, [.ref aq8, .ref aq17, .ref aq26, .null])), (aq8, .inl (cI, 286, .inl (fun _ => 0))), (aq17, .inl (cI, 572, .inl (fun _ => 0))), (aq26, .inl (cI, 572, .inl (fun _ => 0))), (aq35, .inl (cI, 572, .inl (fun _ => 0)))] H := hP
  have hD : va_D A [(a0, .inr (5, [.ref aq8, .ref aq17, .ref aq26, .null])), (aq8, .inl (cI, 286, .inl (fun _ => 0))), (aq17, .inl (cI, 572, .inl (fun _ => 0))), (aq26, .inl (cI, 572, .inl (fun _ => 0))), (aq35, .inl (cI, 572, .inl (fun _ => 0)))] := hD
  refine va_putF (D := (dC, dI)) (ci := 5) (v := .ref aq35) (ty := .array .int) (C := R_LengthMaker) (T := F_LengthMaker) (N := 4) hx hb hts in_LengthMaker t_LengthMaker t_LengthMaker_ok n_LengthMaker hown hK hP hD hS 0 rfl rfl 3 (by decide) (hts _ kw_39) (fun _ h9 => h9) rfl hin0 rfl (by decide +kernel) rfl rfl (Nat.le_of_ble_eq_true rfl) d_LengthMaker_init_37 (fun H locs hP hD hS => ?_)
  have hP : va_P (dC, dI) vwCl [(a0, .inr (5, [.ref aq8, .ref aq17, .ref aq26, .ref aq35])), (aq8, .inl (cI, 286, .inl (fun _ => 0))), (aq17, .inl (cI, 572, .inl (fun _ => 0))), (aq26, .inl (cI, 572, .inl (fun _ => 0))), (aq35, .inl (cI, 572, .inl (fun _ => 0)))] H := hP
  have hD : va_D A [(a0, .inr (5, [.ref aq8, .ref aq17, .ref aq26, .ref aq35])), (aq8, .inl (cI, 286, .inl (fun _ => 0))), (aq17, .inl (cI, 572, .inl (fun _ => 0))), (aq26, .inl (cI, 572, .inl (fun _ => 0))), (aq35, .inl (cI, 572, .inl (fun _ => 0)))] := hD
  obtain rfl := Option.some.inj h
  exact W.vret hx hb hr (fun t ht hW => ⟨⟨⟨aq8, aq17, aq26, aq35⟩, rfl, trivial, by rw [ht]; exact hP.sub [0, 1, 2, 3, 4] rfl, hD.sub [0, 1, 2, 3, 4] (by decide) rfl⟩, hS.F ht⟩) hS.2.2 d_LengthMaker_init_40
set_option maxHeartbeats 4000000 in
set_option maxRecDepth 100000 in
theorem c_LengthMaker_init (l : Launch) (dC : Nat → ClassId) (dI : Nat → Nat → Nat) (cI cB cZ : ClassId) (tS : Nat) (a0 : Nat) (sz : Nat) (N : Nat) (x : Unit) (hf : (g_LengthMaker_init_0) = some x) : Met l y_LengthMaker_init w_LengthMaker_initS rm_LengthMaker_init (gz_Pc [.ref a0] (dC, dI) vwCl [(cI, .int), (cB, .byte), (cZ, .boolean)] tS [(a0, .inr (5, [.null, .null, .null, .null]))] sz) (va_Qv (fun (_ : Nat × Nat × Nat × Nat) => True) (gz_B (dC, dI) vwCl (va_A [(a0, .inr (5, [.null, .null, .null, .null]))] sz) (e_LengthMaker_init dC dI cI cB cZ a0 N x)) (va_A [(a0, .inr (5, [.null, .null, .null, .null]))] sz)) 4 2002 (va_A [(a0, .inr (5, [.null, .null, .null, .null]))] sz) := by
  refine Met.ofW (cc := b_LengthMaker_init) (maxL := 1) (ret := none) (by decide) rfl ?_
  intro p e s m args below meth c s₁ B hml hv
  obtain ⟨rfl, hsz, hP, hK, hD0, hE⟩ := hv
  subst hsz
  have hl := lv_entry ([.ref a0]) (n := 1) (Nat.le_of_ble_eq_true rfl)
  rw [lg_entry_eq]
  generalize (lg_sl ([.ref a0]) ++ List.replicate (1 - (lg_sl ([.ref a0])).length) Slot.unset).toArray = ls at hl ⊢
  have C0 : gz_C p s m _ meth c b_LengthMaker_init 1 none R_LengthMaker "<init>" gz_W _ (dC, dI) vwCl [(cI, .int), (cB, .byte), (cZ, .boolean)] tS := ⟨B.exec, B.bytes, B.returns, hml, findClass_of_methodNamed B.named, (name_of_methodNamed B.named B.method).1, fun w h => atoms_spec (ws := w_LengthMaker_initS) B.pre w (List.mem_cons_of_mem _ h), B.notSynchronized, fun q h => Or.inr h, hK, hE⟩
  exact w_LengthMaker_init_0 C0 a0 N x  hf _ _ _ hP (hD0.self (sz := s.heap.size)) va_S.rf (lv_sub hl [0] rfl)
abbrev rm_Found_init : Room := { frames := 1, cells := 3, slots := 4412, locals := 12 }
abbrev e_Found_init (dC : Nat → ClassId) (dI : Nat → Nat → Nat) (cI cB cZ : ClassId) (a0 : Nat) (N : Nat) (x : Int32) (u : Nat × Nat × Nat) : va_W := [(a0, .inr (6, [.ref u.1, .int x, .ref u.2.1, .ref u.2.2])), (u.1, .inl (cI, 4096, .inl (fun _ => 0))), (u.2.1, .inl (cI, 286, .inl (fun _ => 0))), (u.2.2, .inl (cI, 30, .inl (fun _ => 0)))]
abbrev q_Found_init (below : List Frame) (args : Array Value) (s : State) (dC : Nat → ClassId) (dI : Nat → Nat → Nat) (cI cB cZ : ClassId) (A : Nat → Prop) (a0 : Nat) (N : Nat) (x : Int32) : State → Prop := MQ below (va_Qv (fun (_ : Nat × Nat × Nat) => True) (gz_B (dC, dI) vwCl A (e_Found_init dC dI cI cB cZ a0 N x)) A) args s 3 4412 A
def t_Found_init_0 (p : Program) (l : Launch) (e : Env) (s : State) (m : MethodId) (args : Array Value) (below : List Frame) (meth : Method) (c : Code) (dC : Nat → ClassId) (dI : Nat → Nat → Nat) (cI cB cZ : ClassId) (tS : Nat) (A : Nat → Prop) (a0 : Nat) (N : Nat) (x : Int32) (F : Option (Int32)) : Prop :=
  F = some x → ∀ (H : Heap) (locs : List Loc) (ls : Array Slot), va_P (dC, dI) vwCl [(a0, .inr (6, [.null, .int (0 : Int32), .null, .null]))] H → va_D A [(a0, .inr (6, [.null, .int (0 : Int32), .null, .null]))] → va_S A s.heap H locs → lv_has ls 1 [(0, .ref a0)] → W p l e rm_Found_init s m args below meth c H locs 0 0 (q_Found_init below args s dC dI cI cB cZ A a0 N x) (F0 m 0 ls [])
def g_Found_init_0 : Option (Int32) := some ((0 : Int32))
set_option maxHeartbeats 4000000 in
set_option maxRecDepth 100000 in
theorem w_Found_init_0 {p : Program} {l : Launch} {e : Env} {s : State} {m : MethodId} {args : Array Value} {below : List Frame} {meth : Method} {c : Code} {dC : Nat → ClassId} {dI : Nat → Nat → Nat} {cI cB cZ : ClassId} {tS : Nat} {A : Nat → Prop} (C0 : gz_C p s m args meth c b_Found_init 1 none R_Found "<init>" gz_W A (dC, dI) vwCl [(cI, .int), (cB, .byte), (cZ, .boolean)] tS) (a0 : Nat) (N : Nat) (x : Int32) : t_Found_init_0 p l e s m args below meth c dC dI cI cB cZ tS A a0 N x (g_Found_init_0) := by
  obtain ⟨hx, hb, hr, hml, hown, hin0, hts, hlocks, hA, hK, hE⟩ := id C0
  intro  h H locs ls hP hD hS hl
  rw [g_Found_init_0] at h
  refine lv_aload_n hx hb d_Found_init_0 rfl (lv_at hl 0 rfl) ?_
  refine W.objInit hx hb hown (hts _ kw_46) (hts _ kw_1) (hts _ kw_2) rfl (by rw [hml]; exact hl.1) rfl d_Found_init_1 (Nat.le_of_ble_eq_true rfl) (Nat.le_of_ble_eq_true rfl) ?_
  refine W.eq (g2 := F0 m 4 ls []) rfl ?_
  refine lv_aload_n hx hb d_Found_init_4 rfl (lv_at hl 0 rfl) ?_
  refine lv_sipush (v := (4096 : Int32)) hx hb d_Found_init_5 (by decide) ?_
  refine va_newa (atype := .int) (a0 := (4096, .inl (fun _ => 0))) (N' := 4096) (ty := .int) hx hb (hts _ kw_23) rfl hK hP hD hS hA (fun _ => rfl) (by decide) rfl (by decide) (Nat.le_of_ble_eq_true rfl) (Nat.le_of_ble_eq_true rfl) d_Found_init_8 (fun aq8 cN H hKn hP hD hS => ?_)
  have eN := gz_sameI hKn 0 3 rfl rfl
  subst eN
  have hP : va_P (dC, dI) vwCl [(a0, .inr (6, [.null, .int (0 : Int32), .null, .null])), (aq8, .inl (cI, 4096, .inl (fun _ => 0)))] H := hP
  have hD : va_D A [(a0, .inr (6, [.null, .int (0 : Int32), .null, .null])), (aq8, .inl (cI, 4096, .inl (fun _ => 0)))] := hD
  refine va_putF (D := (dC, dI)) (ci := 6) (v := .ref aq8) (ty := .array .int) (C := R_Found) (T := F_Found) (N := 4) hx hb hts in_Found t_Found t_Found_ok n_Found hown hK hP hD hS 0 rfl rfl 0 (by decide) (hts _ kw_47) (fun _ h9 => h9) rfl hin0 rfl (by decide +kernel) rfl rfl (Nat.le_of_ble_eq_true rfl) d_Found_init_10 (fun H locs hP hD hS => ?_)
  have hP : va_P (dC, dI) vwCl [(a0, .inr (6, [.ref aq8, .int (0 : Int32), .null, .null])), (aq8, .inl (cI, 4096, .inl (fun _ => 0)))] H := hP
  have hD : va_D A [(a0, .inr (6, [.ref aq8, .int (0 : Int32), .null, .null])), (aq8, .inl (cI, 4096, .inl (fun _ => 0)))] := hD
  refine lv_aload_n hx hb d_Found_init_13 rfl (lv_at hl 0 rfl) ?_
  refine lv_iconst (v := (0 : Int32)) hx hb d_Found_init_14 (by decide) ?_
  refine va_put (D := (dC, dI)) (ci := 6) (v := .int (0 : Int32)) (ty := .int) (C := R_Found) (T := F_Found) (N := 4) hx hb hts in_Found t_Found t_Found_ok n_Found hown hK hP hD hS 0 rfl rfl 1 (by decide) (hts _ kw_48) (fun _ h9 => h9) rfl (by decide +kernel) rfl rfl (Nat.le_of_ble_eq_true rfl) d_Found_init_15 (fun H locs hP hD hS => ?_)
  have hP : va_P (dC, dI) vwCl [(a0, .inr (6, [.ref aq8, .int (0 : Int32), .null, .null])), (aq8, .inl (cI, 4096, .inl (fun _ => 0)))] H := hP
  have hD : va_D A [(a0, .inr (6, [.ref aq8, .int (0 : Int32), .null, .null])), (aq8, .inl (cI, 4096, .inl (fun _ => 0)))] := hD
  refine lv_aload_n hx hb d_Found_init_18 rfl (lv_at hl 0 rfl) ?_
  refine lv_sipush (v := (286 : Int32)) hx hb d_Found_init_19 (by decide) ?_
  refine va_newa (atype := .int) (a0 := (286, .inl (fun _ => 0))) (N' := 286) (ty := .int) hx hb (hts _ kw_23) rfl hK hP hD hS hA (fun _ => rfl) (by decide) rfl (by decide) (Nat.le_of_ble_eq_true rfl) (Nat.le_of_ble_eq_true rfl) d_Found_init_22 (fun aq22 cN H hKn hP hD hS => ?_)
  have eN := gz_sameI hKn 0 3 rfl rfl
  subst eN
  have hP : va_P (dC, dI) vwCl [(a0, .inr (6, [.ref aq8, .int (0 : Int32), .null, .null])), (aq8, .inl (cI, 4096, .inl (fun _ => 0))), (aq22, .inl (cI, 286, .inl (fun _ => 0)))] H := hP
  have hD : va_D A [(a0, .inr (6, [.ref aq8, .int (0 : Int32), .null, .null])), (aq8, .inl (cI, 4096, .inl (fun _ => 0))), (aq22, .inl (cI, 286, .inl (fun _ => 0)))] := hD
  refine va_putF (D := (dC, dI)) (ci := 6) (v := .ref aq22) (ty := .array .int) (C := R_Found) (T := F_Found) (N := 4) hx hb hts in_Found t_Found t_Found_ok n_Found hown hK hP hD hS 0 rfl rfl 2 (by decide) (hts _ kw_49) (fun _ h9 => h9) rfl hin0 rfl (by decide +kernel) rfl rfl (Nat.le_of_ble_eq_true rfl) d_Found_init_24 (fun H locs hP hD hS => ?_)
  have hP : va_P (dC, dI) vwCl [(a0, .inr (6, [.ref aq8, .int (0 : Int32), .ref aq22, .null])), (aq8, .inl (cI, 4096, .inl (fun _ => 0))), (aq22, .inl (cI, 286, .inl (fun _ => 0)))] H := hP
  have hD : va_D A [(a0, .inr (6, [.ref aq8, .int (0 : Int32), .ref aq22, .null])), (aq8, .inl (cI, 4096, .inl (fun _ => 0))), (aq22, .inl (cI, 286, .inl (fun _ => 0)))] := hD
  refine lv_aload_n hx hb d_Found_init_27 rfl (lv_at hl 0 rfl) ?_
  refine lv_bipush (v := (30 : Int32)) hx hb d_Found_init_28 (by decide) ?_
  refine va_newa (atype := .int) (a0 := (30, .inl (fun _ => 0))) (N' := 30) (ty := .int) hx hb (hts _ kw_23) rfl hK hP hD hS hA (fun _ => rfl) (by decide) rfl (by decide) (Nat.le_of_ble_eq_true rfl) (Nat.le_of_ble_eq_true rfl) d_Found_init_30 (fun aq30 cN H hKn hP hD hS => ?_)
  have eN := gz_sameI hKn 0 3 rfl rfl
  subst eN
  have hP : va_P (dC, dI) vwCl [(a0, .inr (6, [.ref aq8, .int (0 : Int32), .ref aq22, .null])), (aq8, .inl (cI, 4096, .inl (fun _ => 0))), (aq22, .inl (cI, 286, .inl (fun _ => 0))), (aq30, .inl (cI, 30, .inl (fun _ => 0)))] H := hP
  have hD : va_D A [(a0, .inr (6, [.ref aq8, .int (0 : Int32), .ref aq22, .null])), (aq8, .inl (cI, 4096, .inl (fun _ => 0))), (aq22, .inl (cI, 286, .inl (fun _ => 0))), (aq30, .inl (cI, 30, .inl (fun _ => 0)))] := hD
  refine va_putF (D := (dC, dI)) (ci := 6) (v := .ref aq30) (ty := .array .int) (C := R_Found) (T := F_Found) (N := 4) hx hb hts in_Found t_Found t_Found_ok n_Found hown hK hP hD hS 0 rfl rfl 3 (by decide) (hts _ kw_50) (fun _ h9 => h9) rfl hin0 rfl (by decide +kernel) rfl rfl (Nat.le_of_ble_eq_true rfl) d_Found_init_32 (fun H locs hP hD hS => ?_)
  have hP : va_P (dC, dI) vwCl [(a0, .inr (6, [.ref aq8, .int (0 : Int32), .ref aq22, .ref aq30])), (aq8, .inl (cI, 4096, .inl (fun _ => 0))), (aq22, .inl (cI, 286, .inl (fun _ => 0))), (aq30, .inl (cI, 30, .inl (fun _ => 0)))] H := hP
  have hD : va_D A [(a0, .inr (6, [.ref aq8, .int (0 : Int32), .ref aq22, .ref aq30])), (aq8, .inl (cI, 4096, .inl (fun _ => 0))), (aq22, .inl (cI, 286, .inl (fun _ => 0))), (aq30, .inl (cI, 30, .inl (fun _ => 0)))] := hD
  obtain rfl := Option.some.inj h
  exact W.vret hx hb hr (fun t ht hW => ⟨⟨⟨aq8, aq22, aq30⟩, rfl, trivial, by rw [ht]; exact hP.sub [0, 1, 2, 3] rfl, hD.sub [0, 1, 2, 3] (by decide) rfl⟩, hS.F ht⟩) hS.2.2 d_Found_init_35
set_option maxHeartbeats 4000000 in
set_option maxRecDepth 100000 in
theorem c_Found_init (l : Launch) (dC : Nat → ClassId) (dI : Nat → Nat → Nat) (cI cB cZ : ClassId) (tS : Nat) (a0 : Nat) (sz : Nat) (N : Nat) (x : Int32) (hf : (g_Found_init_0) = some x) : Met l y_Found_init w_Found_initS rm_Found_init (gz_Pc [.ref a0] (dC, dI) vwCl [(cI, .int), (cB, .byte), (cZ, .boolean)] tS [(a0, .inr (6, [.null, .int (0 : Int32), .null, .null]))] sz) (va_Qv (fun (_ : Nat × Nat × Nat) => True) (gz_B (dC, dI) vwCl (va_A [(a0, .inr (6, [.null, .int (0 : Int32), .null, .null]))] sz) (e_Found_init dC dI cI cB cZ a0 N x)) (va_A [(a0, .inr (6, [.null, .int (0 : Int32), .null, .null]))] sz)) 3 4412 (va_A [(a0, .inr (6, [.null, .int (0 : Int32), .null, .null]))] sz) := by
  refine Met.ofW (cc := b_Found_init) (maxL := 1) (ret := none) (by decide) rfl ?_
  intro p e s m args below meth c s₁ B hml hv
  obtain ⟨rfl, hsz, hP, hK, hD0, hE⟩ := hv
  subst hsz
  have hl := lv_entry ([.ref a0]) (n := 1) (Nat.le_of_ble_eq_true rfl)
  rw [lg_entry_eq]
  generalize (lg_sl ([.ref a0]) ++ List.replicate (1 - (lg_sl ([.ref a0])).length) Slot.unset).toArray = ls at hl ⊢
  have C0 : gz_C p s m _ meth c b_Found_init 1 none R_Found "<init>" gz_W _ (dC, dI) vwCl [(cI, .int), (cB, .byte), (cZ, .boolean)] tS := ⟨B.exec, B.bytes, B.returns, hml, findClass_of_methodNamed B.named, (name_of_methodNamed B.named B.method).1, fun w h => atoms_spec (ws := w_Found_initS) B.pre w (List.mem_cons_of_mem _ h), B.notSynchronized, fun q h => Or.inr h, hK, hE⟩
  exact w_Found_init_0 C0 a0 N x  hf _ _ _ hP (hD0.self (sz := s.heap.size)) va_S.rf (lv_sub hl [0] rfl)
abbrev rm_WriteCodes_init : Room := { frames := 1, cells := 2, slots := 576, locals := 12 }
abbrev e_WriteCodes_init (dC : Nat → ClassId) (dI : Nat → Nat → Nat) (cI cB cZ : ClassId) (a0 : Nat) (N : Nat) (x : Unit) (u : Nat × Nat) : va_W := [(a0, .inr (8, [.ref u.1, .ref u.2])), (u.1, .inl (cI, 288, .inl (fun _ => 0))), (u.2, .inl (cI, 288, .inl (fun _ => 0)))]
abbrev q_WriteCodes_init (below : List Frame) (args : Array Value) (s : State) (dC : Nat → ClassId) (dI : Nat → Nat → Nat) (cI cB cZ : ClassId) (A : Nat → Prop) (a0 : Nat) (N : Nat) (x : Unit) : State → Prop := MQ below (va_Qv (fun (_ : Nat × Nat) => True) (gz_B (dC, dI) vwCl A (e_WriteCodes_init dC dI cI cB cZ a0 N x)) A) args s 2 576 A
def t_WriteCodes_init_0 (p : Program) (l : Launch) (e : Env) (s : State) (m : MethodId) (args : Array Value) (below : List Frame) (meth : Method) (c : Code) (dC : Nat → ClassId) (dI : Nat → Nat → Nat) (cI cB cZ : ClassId) (tS : Nat) (A : Nat → Prop) (a0 : Nat) (N : Nat) (x : Unit) (F : Option (Unit)) : Prop :=
  F = some x → ∀ (H : Heap) (locs : List Loc) (ls : Array Slot), va_P (dC, dI) vwCl [(a0, .inr (8, [.null, .null]))] H → va_D A [(a0, .inr (8, [.null, .null]))] → va_S A s.heap H locs → lv_has ls 1 [(0, .ref a0)] → W p l e rm_WriteCodes_init s m args below meth c H locs 0 0 (q_WriteCodes_init below args s dC dI cI cB cZ A a0 N x) (F0 m 0 ls [])
def g_WriteCodes_init_0 : Option (Unit) := some ()
set_option maxHeartbeats 4000000 in
set_option maxRecDepth 100000 in
theorem w_WriteCodes_init_0 {p : Program} {l : Launch} {e : Env} {s : State} {m : MethodId} {args : Array Value} {below : List Frame} {meth : Method} {c : Code} {dC : Nat → ClassId} {dI : Nat → Nat → Nat} {cI cB cZ : ClassId} {tS : Nat} {A : Nat → Prop} (C0 : gz_C p s m args meth c b_WriteCodes_init 1 none R_WriteCodes "<init>" gz_W A (dC, dI) vwCl [(cI, .int), (cB, .byte), (cZ, .boolean)] tS) (a0 : Nat) (N : Nat) (x : Unit) : t_WriteCodes_init_0 p l e s m args below meth c dC dI cI cB cZ tS A a0 N x (g_WriteCodes_init_0) := by
  obtain ⟨hx, hb, hr, hml, hown, hin0, hts, hlocks, hA, hK, hE⟩ := id C0
  intro  h H locs ls hP hD hS hl
  rw [g_WriteCodes_init_0] at h
  refine lv_aload_n hx hb d_WriteCodes_init_0 rfl (lv_at hl 0 rfl) ?_
  refine W.objInit hx hb hown (hts _ kw_65) (hts _ kw_1) (hts _ kw_2) rfl (by rw [hml]; exact hl.1) rfl d_WriteCodes_init_1 (Nat.le_of_ble_eq_true rfl) (Nat.le_of_ble_eq_true rfl) ?_
  refine W.eq (g2 := F0 m 4 ls []) rfl ?_
  refine lv_aload_n hx hb d_WriteCodes_init_4 rfl (lv_at hl 0 rfl) ?_
  refine lv_sipush (v := (288 : Int32)) hx hb d_WriteCodes_init_5 (by decide) ?_
  refine va_newa (atype := .int) (a0 := (288, .inl (fun _ => 0))) (N' := 288) (ty := .int) hx hb (hts _ kw_23) rfl hK hP hD hS hA (fun _ => rfl) (by decide) rfl (by decide) (Nat.le_of_ble_eq_true rfl) (Nat.le_of_ble_eq_true rfl) d_WriteCodes_init_8 (fun aq8 cN H hKn hP hD hS => ?_)
  have eN := gz_sameI hKn 0 3 rfl rfl
  subst eN
  have hP : va_P (dC, dI) vwCl [(a0, .inr (8, [.null, .null])), (aq8, .inl (cI, 288, .inl (fun _ => 0)))] H := hP
  have hD : va_D A [(a0, .inr (8, [.null, .null])), (aq8, .inl (cI, 288, .inl (fun _ => 0)))] := hD
  refine va_putF (D := (dC, dI)) (ci := 8) (v := .ref aq8) (ty := .array .int) (C := R_WriteCodes) (T := F_WriteCodes) (N := 2) hx hb hts in_WriteCodes t_WriteCodes t_WriteCodes_ok n_WriteCodes hown hK hP hD hS 0 rfl rfl 0 (by decide) (hts _ kw_66) (fun _ h9 => h9) rfl hin0 rfl (by decide +kernel) rfl rfl (Nat.le_of_ble_eq_true rfl) d_WriteCodes_init_10 (fun H locs hP hD hS => ?_)
  have hP : va_P (dC, dI) vwCl [(a0, .inr (8, [.ref aq8, .null])), (aq8, .inl (cI, 288, .inl (fun _ => 0)))] H := hP
  have hD : va_D A [(a0, .inr (8, [.ref aq8, .null])), (aq8, .inl (cI, 288, .inl (fun _ => 0)))] := hD
  refine lv_aload_n hx hb d_WriteCodes_init_13 rfl (lv_at hl 0 rfl) ?_
  refine lv_sipush (v := (288 : Int32)) hx hb d_WriteCodes_init_14 (by decide) ?_
  refine va_newa (atype := .int) (a0 := (288, .inl (fun _ => 0))) (N' := 288) (ty := .int) hx hb (hts _ kw_23) rfl hK hP hD hS hA (fun _ => rfl) (by decide) rfl (by decide) (Nat.le_of_ble_eq_true rfl) (Nat.le_of_ble_eq_true rfl) d_WriteCodes_init_17 (fun aq17 cN H hKn hP hD hS => ?_)
  have eN := gz_sameI hKn 0 3 rfl rfl
  subst eN
  have hP : va_P (dC, dI) vwCl [(a0, .inr (8, [.ref aq8, .null])), (aq8, .inl (cI, 288, .inl (fun _ => 0))), (aq17, .inl (cI, 288, .inl (fun _ => 0)))] H := hP
  have hD : va_D A [(a0, .inr (8, [.ref aq8, .null])), (aq8, .inl (cI, 288, .inl (fun _ => 0))), (aq17, .inl (cI, 288, .inl (fun _ => 0)))] := hD
  refine va_putF (D := (dC, dI)) (ci := 8) (v := .ref aq17) (ty := .array .int) (C := R_WriteCodes) (T := F_WriteCodes) (N := 2) hx hb hts in_WriteCodes t_WriteCodes t_WriteCodes_ok n_WriteCodes hown hK hP hD hS 0 rfl rfl 1 (by decide) (hts _ kw_67) (fun _ h9 => h9) rfl hin0 rfl (by decide +kernel) rfl rfl (Nat.le_of_ble_eq_true rfl) d_WriteCodes_init_19 (fun H locs hP hD hS => ?_)
  have hP : va_P (dC, dI) vwCl [(a0, .inr (8, [.ref aq8, .ref aq17])), (aq8, .inl (cI, 288, .inl (fun _ => 0))), (aq17, .inl (cI, 288, .inl (fun _ => 0)))] H := hP
  have hD : va_D A [(a0, .inr (8, [.ref aq8, .ref aq17])), (aq8, .inl (cI, 288, .inl (fun _ => 0))), (aq17, .inl (cI, 288, .inl (fun _ => 0)))] := hD
  obtain rfl := Option.some.inj h
  exact W.vret hx hb hr (fun t ht hW => ⟨⟨⟨aq8, aq17⟩, rfl, trivial, by rw [ht]; exact hP.sub [0, 1, 2] rfl, hD.sub [0, 1, 2] (by decide) rfl⟩, hS.F ht⟩) hS.2.2 d_WriteCodes_init_22
set_option maxHeartbeats 4000000 in
set_option maxRecDepth 100000 in
theorem c_WriteCodes_init (l : Launch) (dC : Nat → ClassId) (dI : Nat → Nat → Nat) (cI cB cZ : ClassId) (tS : Nat) (a0 : Nat) (sz : Nat) (N : Nat) (x : Unit) (hf : (g_WriteCodes_init_0) = some x) : Met l y_WriteCodes_init w_WriteCodes_initS rm_WriteCodes_init (gz_Pc [.ref a0] (dC, dI) vwCl [(cI, .int), (cB, .byte), (cZ, .boolean)] tS [(a0, .inr (8, [.null, .null]))] sz) (va_Qv (fun (_ : Nat × Nat) => True) (gz_B (dC, dI) vwCl (va_A [(a0, .inr (8, [.null, .null]))] sz) (e_WriteCodes_init dC dI cI cB cZ a0 N x)) (va_A [(a0, .inr (8, [.null, .null]))] sz)) 2 576 (va_A [(a0, .inr (8, [.null, .null]))] sz) := by
  refine Met.ofW (cc := b_WriteCodes_init) (maxL := 1) (ret := none) (by decide) rfl ?_
  intro p e s m args below meth c s₁ B hml hv
  obtain ⟨rfl, hsz, hP, hK, hD0, hE⟩ := hv
  subst hsz
  have hl := lv_entry ([.ref a0]) (n := 1) (Nat.le_of_ble_eq_true rfl)
  rw [lg_entry_eq]
  generalize (lg_sl ([.ref a0]) ++ List.replicate (1 - (lg_sl ([.ref a0])).length) Slot.unset).toArray = ls at hl ⊢
  have C0 : gz_C p s m _ meth c b_WriteCodes_init 1 none R_WriteCodes "<init>" gz_W _ (dC, dI) vwCl [(cI, .int), (cB, .byte), (cZ, .boolean)] tS := ⟨B.exec, B.bytes, B.returns, hml, findClass_of_methodNamed B.named, (name_of_methodNamed B.named B.method).1, fun w h => atoms_spec (ws := w_WriteCodes_initS) B.pre w (List.mem_cons_of_mem _ h), B.notSynchronized, fun q h => Or.inr h, hK, hE⟩
  exact w_WriteCodes_init_0 C0 a0 N x  hf _ _ _ hP (hD0.self (sz := s.heap.size)) va_S.rf (lv_sub hl [0] rfl)
abbrev rm_Tale_init : Room := { frames := 2, cells := 7, slots := 1545, locals := 32 }
abbrev e_Tale_init (dC : Nat → ClassId) (dI : Nat → Nat → Nat) (cI cB cZ : ClassId) (a0 : Nat) (N : Nat) (x : Int32 × Int32 × Int32 × Int32) (u : Nat × Nat × Nat × Nat × Nat × Nat × Nat) : va_W := [(a0, .inr (7, [.ref u.1, .ref u.2.1, .ref u.2.2.1, .ref u.2.2.2.1, .ref u.2.2.2.2.1, .int x.1, .int x.2.1, .int x.2.2.1, .int x.2.2.2])), (u.1, .inl (cI, 316, .inl (fun _ => 0))), (u.2.1, .inl (cI, 316, .inl (fun _ => 0))), (u.2.2.1, .inl (cI, 316, .inl (fun _ => 0))), (u.2.2.2.1, .inl (cI, 19, .inl (fun _ => 0))), (u.2.2.2.2.1, .inr (8, [.ref u.2.2.2.2.2.1, .ref u.2.2.2.2.2.2])), (u.2.2.2.2.2.1, .inl (cI, 288, .inl (fun _ => 0))), (u.2.2.2.2.2.2, .inl (cI, 288, .inl (fun _ => 0)))]
abbrev q_Tale_init (below : List Frame) (args : Array Value) (s : State) (dC : Nat → ClassId) (dI : Nat → Nat → Nat) (cI cB cZ : ClassId) (A : Nat → Prop) (a0 : Nat) (N : Nat) (x : Int32 × Int32 × Int32 × Int32) : State → Prop := MQ below (va_Qv (fun (_ : Nat × Nat × Nat × Nat × Nat × Nat × Nat) => True) (gz_B (dC, dI) vwCl A (e_Tale_init dC dI cI cB cZ a0 N x)) A) args s 7 1545 A
def t_Tale_init_0 (p : Program) (l : Launch) (e : Env) (s : State) (m : MethodId) (args : Array Value) (below : List Frame) (meth : Method) (c : Code) (dC : Nat → ClassId) (dI : Nat → Nat → Nat) (cI cB cZ : ClassId) (tS : Nat) (A : Nat → Prop) (a0 : Nat) (N : Nat) (x : Int32 × Int32 × Int32 × Int32) (F : Option (Int32 × Int32 × Int32 × Int32)) : Prop :=
  F = some x → ∀ (H : Heap) (locs : List Loc) (ls : Array Slot), va_P (dC, dI) vwCl [(a0, .inr (7, [.null, .null, .null, .null, .null, .int (0 : Int32), .int (0 : Int32), .int (0 : Int32), .int (0 : Int32)]))] H → va_D A [(a0, .inr (7, [.null, .null, .null, .null, .null, .int (0 : Int32), .int (0 : Int32), .int (0 : Int32), .int (0 : Int32)]))] → va_S A s.heap H locs → lv_has ls 1 [(0, .ref a0)] → W p l e rm_Tale_init s m args below meth c H locs 0 0 (q_Tale_init below args s dC dI cI cB cZ A a0 N x) (F0 m 0 ls [])
def g_Tale_init_0 : Option (Int32 × Int32 × Int32 × Int32) := (Option.bind (g_WriteCodes_init_0) (fun r1 => some ((0 : Int32), (0 : Int32), (0 : Int32), (0 : Int32))))
set_option maxHeartbeats 4000000 in
set_option maxRecDepth 100000 in
theorem w_Tale_init_0 {p : Program} {l : Launch} {e : Env} {s : State} {m : MethodId} {args : Array Value} {below : List Frame} {meth : Method} {c : Code} {dC : Nat → ClassId} {dI : Nat → Nat → Nat} {cI cB cZ : ClassId} {tS : Nat} {A : Nat → Prop} (C0 : gz_C p s m args meth c b_Tale_init 1 none R_Tale "<init>" gz_W A (dC, dI) vwCl [(cI, .int), (cB, .byte), (cZ, .boolean)] tS) (a0 : Nat) (N : Nat) (x : Int32 × Int32 × Int32 × Int32) : t_Tale_init_0 p l e s m args below meth c dC dI cI cB cZ tS A a0 N x (g_Tale_init_0) := by
  obtain ⟨hx, hb, hr, hml, hown, hin0, hts, hlocks, hA, hK, hE⟩ := id C0
  intro  h H locs ls hP hD hS hl
  rw [g_Tale_init_0] at h
  refine lv_aload_n hx hb d_Tale_init_0 rfl (lv_at hl 0 rfl) ?_
  refine W.objInit hx hb hown (hts _ kw_57) (hts _ kw_1) (hts _ kw_2) rfl (by rw [hml]; exact hl.1) rfl d_Tale_init_1 (Nat.le_of_ble_eq_true rfl) (Nat.le_of_ble_eq_true rfl) ?_
  refine W.eq (g2 := F0 m 4 ls []) rfl ?_
  refine lv_aload_n hx hb d_Tale_init_4 rfl (lv_at hl 0 rfl) ?_
  refine lv_sipush (v := (316 : Int32)) hx hb d_Tale_init_5 (by decide) ?_
  refine va_newa (atype := .int) (a0 := (316, .inl (fun _ => 0))) (N' := 316) (ty := .int) hx hb (hts _ kw_23) rfl hK hP hD hS hA (fun _ => rfl) (by decide) rfl (by decide) (Nat.le_of_ble_eq_true rfl) (Nat.le_of_ble_eq_true rfl) d_Tale_init_8 (fun aq8 cN H hKn hP hD hS => ?_)
  have eN := gz_sameI hKn 0 3 rfl rfl
  subst eN
  have hP : va_P (dC, dI) vwCl [(a0, .inr (7, [.null, .null, .null, .null, .null, .int (0 : Int32), .int (0 : Int32), .int (0 : Int32), .int (0 : Int32)])), (aq8, .inl (cI, 316, .inl (fun _ => 0)))] H := hP
  have hD : va_D A [(a0, .inr (7, [.null, .null, .null, .null, .null, .int (0 : Int32), .int (0 : Int32), .int (0 : Int32), .int (0 : Int32)])), (aq8, .inl (cI, 316, .inl (fun _ => 0)))] := hD
  refine va_putF (D := (dC, dI)) (ci := 7) (v := .ref aq8) (ty := .array .int) (C := R_Tale) (T := F_Tale) (N := 9) hx hb hts in_Tale t_Tale t_Tale_ok n_Tale hown hK hP hD hS 0 rfl rfl 0 (by decide) (hts _ kw_58) (fun _ h9 => h9) rfl hin0 rfl (by decide +kernel) rfl rfl (Nat.le_of_ble_eq_true rfl) d_Tale_init_10 (fun H locs hP hD hS => ?_)
  have hP : va_P (dC, dI) vwCl [(a0, .inr (7, [.ref aq8, .null, .null, .null, .null, .int (0 : Int32), .int (0 : Int32), .int (0 : Int32), .int (0 : Int32)])), (aq8, .inl (cI, 316, .inl (fun _ => 0)))] H := hP
  have hD : va_D A [(a0, .inr (7, [.ref aq8, .null, .null, .null, .null, .int (0 : Int32), .int (0 : Int32), .int (0 : Int32), .int (0 : Int32)])), (aq8, .inl (cI, 316, .inl (fun _ => 0)))] := hD
  refine lv_aload_n hx hb d_Tale_init_13 rfl (lv_at hl 0 rfl) ?_
  refine lv_sipush (v := (316 : Int32)) hx hb d_Tale_init_14 (by decide) ?_
  refine va_newa (atype := .int) (a0 := (316, .inl (fun _ => 0))) (N' := 316) (ty := .int) hx hb (hts _ kw_23) rfl hK hP hD hS hA (fun _ => rfl) (by decide) rfl (by decide) (Nat.le_of_ble_eq_true rfl) (Nat.le_of_ble_eq_true rfl) d_Tale_init_17 (fun aq17 cN H hKn hP hD hS => ?_)
  have eN := gz_sameI hKn 0 3 rfl rfl
  subst eN
  have hP : va_P (dC, dI) vwCl [(a0, .inr (7, [.ref aq8, .null, .null, .null, .null, .int (0 : Int32), .int (0 : Int32), .int (0 : Int32), .int (0 : Int32)])), (aq8, .inl (cI, 316, .inl (fun _ => 0))), (aq17, .inl (cI, 316, .inl (fun _ => 0)))] H := hP
  have hD : va_D A [(a0, .inr (7, [.ref aq8, .null, .null, .null, .null, .int (0 : Int32), .int (0 : Int32), .int (0 : Int32), .int (0 : Int32)])), (aq8, .inl (cI, 316, .inl (fun _ => 0))), (aq17, .inl (cI, 316, .inl (fun _ => 0)))] := hD
  refine va_putF (D := (dC, dI)) (ci := 7) (v := .ref aq17) (ty := .array .int) (C := R_Tale) (T := F_Tale) (N := 9) hx hb hts in_Tale t_Tale t_Tale_ok n_Tale hown hK hP hD hS 0 rfl rfl 1 (by decide) (hts _ kw_59) (fun _ h9 => h9) rfl hin0 rfl (by decide +kernel) rfl rfl (Nat.le_of_ble_eq_true rfl) d_Tale_init_19 (fun H locs hP hD hS => ?_)
  have hP : va_P (dC, dI) vwCl [(a0, .inr (7, [.ref aq8, .ref aq17, .null, .null, .null, .int (0 : Int32), .int (0 : Int32), .int (0 : Int32), .int (0 : Int32)])), (aq8, .inl (cI, 316, .inl (fun _ => 0))), (aq17, .inl (cI, 316, .inl (fun _ => 0)))] H := hP
  have hD : va_D A [(a0, .inr (7, [.ref aq8, .ref aq17, .null, .null, .null, .int (0 : Int32), .int (0 : Int32), .int (0 : Int32), .int (0 : Int32)])), (aq8, .inl (cI, 316, .inl (fun _ => 0))), (aq17, .inl (cI, 316, .inl (fun _ => 0)))] := hD
  refine lv_aload_n hx hb d_Tale_init_22 rfl (lv_at hl 0 rfl) ?_
  refine lv_sipush (v := (316 : Int32)) hx hb d_Tale_init_23 (by decide) ?_
  refine va_newa (atype := .int) (a0 := (316, .inl (fun _ => 0))) (N' := 316) (ty := .int) hx hb (hts _ kw_23) rfl hK hP hD hS hA (fun _ => rfl) (by decide) rfl (by decide) (Nat.le_of_ble_eq_true rfl) (Nat.le_of_ble_eq_true rfl) d_Tale_init_26 (fun aq26 cN H hKn hP hD hS => ?_)
  have eN := gz_sameI hKn 0 3 rfl rfl
  subst eN
  have hP : va_P (dC, dI) vwCl [(a0, .inr (7, [.ref aq8, .ref aq17, .null, .null, .null, .int (0 : Int32), .int (0 : Int32), .int (0 : Int32), .int (0 : Int32)])), (aq8, .inl (cI, 316, .inl (fun _ => 0))), (aq17, .inl (cI, 316, .inl (fun _ => 0))), (aq26, .inl (cI, 316, .inl (fun _ => 0)))] H := hP
  have hD : va_D A [(a0, .inr (7, [.ref aq8, .ref aq17, .null, .null, .null, .int (0 : Int32), .int (0 : Int32), .int (0 : Int32), .int (0 : Int32)])), (aq8, .inl (cI, 316, .inl (fun _ => 0))), (aq17, .inl (cI, 316, .inl (fun _ => 0))), (aq26, .inl (cI, 316, .inl (fun _ => 0)))] := hD
  refine va_putF (D := (dC, dI)) (ci := 7) (v := .ref aq26) (ty := .array .int) (C := R_Tale) (T := F_Tale) (N := 9) hx hb hts in_Tale t_Tale t_Tale_ok n_Tale hown hK hP hD hS 0 rfl rfl 2 (by decide) (hts _ kw_60) (fun _ h9 => h9) rfl hin0 rfl (by decide +kernel) rfl rfl (Nat.le_of_ble_eq_true rfl) d_Tale_init_28 (fun H locs hP hD hS => ?_)
  have hP : va_P (dC, dI) vwCl [(a0, .inr (7, [.ref aq8, .ref aq17, .ref aq26, .null, .null, .int (0 : Int32), .int (0 : Int32), .int (0 : Int32), .int (0 : Int32)])), (aq8, .inl (cI, 316, .inl (fun _ => 0))), (aq17, .inl (cI, 316, .inl (fun _ => 0))), (aq26, .inl (cI, 316, .inl (fun _ => 0)))] H := hP
  have hD : va_D A [(a0, .inr (7, [.ref aq8, .ref aq17, .ref aq26, .null, .null, .int (0 : Int32), .int (0 : Int32), .int (0 : Int32), .int (0 : Int32)])), (aq8, .inl (cI, 316, .inl (fun _ => 0))), (aq17, .inl (cI, 316, .inl (fun _ => 0))), (aq26, .inl (cI, 316, .inl (fun _ => 0)))] := hD
  refine lv_aload_n hx hb d_Tale_init_31 rfl (lv_at hl 0 rfl) ?_
  refine lv_bipush (v := (19 : Int32)) hx hb d_Tale_init_32 (by decide) ?_
  refine va_newa (atype := .int) (a0 := (19, .inl (fun _ => 0))) (N' := 19) (ty := .int) hx hb (hts _ kw_23) rfl hK hP hD hS hA (fun _ => rfl) (by decide) rfl (by decide) (Nat.le_of_ble_eq_true rfl) (Nat.le_of_ble_eq_true rfl) d_Tale_init_34 (fun aq34 cN H hKn hP hD hS => ?_)
  have eN := gz_sameI hKn 0 3 rfl rfl
  subst eN
  have hP : va_P (dC, dI) vwCl [(a0, .inr (7, [.ref aq8, .ref aq17, .ref aq26, .null, .null, .int (0 : Int32), .int (0 : Int32), .int (0 : Int32), .int (0 : Int32)])), (aq8, .inl (cI, 316, .inl (fun _ => 0))), (aq17, .inl (cI, 316, .inl (fun _ => 0))), (aq26, .inl (cI, 316, .inl (fun _ => 0))), (aq34, .inl (cI, 19, .inl (fun _ => 0)))] H := hP
  have hD : va_D A [(a0, .inr (7, [.ref aq8, .ref aq17, .ref aq26, .null, .null, .int (0 : Int32), .int (0 : Int32), .int (0 : Int32), .int (0 : Int32)])), (aq8, .inl (cI, 316, .inl (fun _ => 0))), (aq17, .inl (cI, 316, .inl (fun _ => 0))), (aq26, .inl (cI, 316, .inl (fun _ => 0))), (aq34, .inl (cI, 19, .inl (fun _ => 0)))] := hD
  refine va_putF (D := (dC, dI)) (ci := 7) (v := .ref aq34) (ty := .array .int) (C := R_Tale) (T := F_Tale) (N := 9) hx hb hts in_Tale t_Tale t_Tale_ok n_Tale hown hK hP hD hS 0 rfl rfl 3 (by decide) (hts _ kw_61) (fun _ h9 => h9) rfl hin0 rfl (by decide +kernel) rfl rfl (Nat.le_of_ble_eq_true rfl) d_Tale_init_36 (fun H locs hP hD hS => ?_)
  have hP : va_P (dC, dI) vwCl [(a0, .inr (7, [.ref aq8, .ref aq17, .ref aq26, .ref aq34, .null, .int (0 : Int32), .int (0 : Int32), .int (0 : Int32), .int (0 : Int32)])), (aq8, .inl (cI, 316, .inl (fun _ => 0))), (aq17, .inl (cI, 316, .inl (fun _ => 0))), (aq26, .inl (cI, 316, .inl (fun _ => 0))), (aq34, .inl (cI, 19, .inl (fun _ => 0)))] H := hP
  have hD : va_D A [(a0, .inr (7, [.ref aq8, .ref aq17, .ref aq26, .ref aq34, .null, .int (0 : Int32), .int (0 : Int32), .int (0 : Int32), .int (0 : Int32)])), (aq8, .inl (cI, 316, .inl (fun _ => 0))), (aq17, .inl (cI, 316, .inl (fun _ => 0))), (aq26, .inl (cI, 316, .inl (fun _ => 0))), (aq34, .inl (cI, 19, .inl (fun _ => 0)))] := hD
  refine lv_aload_n hx hb d_Tale_init_39 rfl (lv_at hl 0 rfl) ?_
  refine va_new (ci := 8) (fs := [.null, .null]) (C := R_WriteCodes) (T := F_WriteCodes) (N := 2) hx hb hts in_WriteCodes t_WriteCodes t_WriteCodes_ok hown (hts _ kw_62) (hts _ kw_63) (hts _ kw_64) hK hP hD hS hA rfl (fun j hj => by rcases (show j = 0 ∨ j = 1 by omega) with rfl | rfl <;> rfl) (Nat.le_of_ble_eq_true rfl) (Nat.le_of_ble_eq_true rfl) d_Tale_init_40 (fun aq40 H hP hD hS => ?_)
  have hP : va_P (dC, dI) vwCl [(a0, .inr (7, [.ref aq8, .ref aq17, .ref aq26, .ref aq34, .null, .int (0 : Int32), .int (0 : Int32), .int (0 : Int32), .int (0 : Int32)])), (aq8, .inl (cI, 316, .inl (fun _ => 0))), (aq17, .inl (cI, 316, .inl (fun _ => 0))), (aq26, .inl (cI, 316, .inl (fun _ => 0))), (aq34, .inl (cI, 19, .inl (fun _ => 0))), (aq40, .inr (8, [.null, .null]))] H := hP
  have hD : va_D A [(a0, .inr (7, [.ref aq8, .ref aq17, .ref aq26, .ref aq34, .null, .int (0 : Int32), .int (0 : Int32), .int (0 : Int32), .int (0 : Int32)])), (aq8, .inl (cI, 316, .inl (fun _ => 0))), (aq17, .inl (cI, 316, .inl (fun _ => 0))), (aq26, .inl (cI, 316, .inl (fun _ => 0))), (aq34, .inl (cI, 19, .inl (fun _ => 0))), (aq40, .inr (8, [.null, .null]))] := hD
  refine lv_dup hx hb d_Tale_init_43 rfl ?_
  obtain ⟨r1, hcr1, h⟩ := gz_b h
  refine gz_cv hP hD hS hA [5] [0, 1, 2, 3, 4] (wr := [(a0, .inr (7, [.ref aq8, .ref aq17, .ref aq26, .ref aq34, .null, .int (0 : Int32), .int (0 : Int32), .int (0 : Int32), .int (0 : Int32)])), (aq8, .inl (cI, 316, .inl (fun _ => 0))), (aq17, .inl (cI, 316, .inl (fun _ => 0))), (aq26, .inl (cI, 316, .inl (fun _ => 0))), (aq34, .inl (cI, 19, .inl (fun _ => 0)))]) rfl rfl (by decide) (by decide) (va_runIN (As := []) (rest := [.ref aq40, .ref a0]) ⟨hx, hb, hml, hown, hts⟩ (c_WriteCodes_init l dC dI cI cB cZ tS aq40 H.size N r1 hcr1) ⟨(va_cnB 0 hts (gz_gC kw_68) rfl rfl rfl (hE.1 _ (List.mem_of_getElem? (i := 5) rfl)) (hts _ kw_64) (by decide +kernel) ⟨(Nat.le_of_ble_eq_true rfl), (Nat.le_of_ble_eq_true rfl)⟩), rfl, hts _ kw_69⟩ (gz_preS hK hE hP hD hS hA [5] (by decide) rfl) rfl rfl hl.1 rfl (lv_room (Nat.le_of_ble_eq_true rfl)) d_Tale_init_44 ⟨(Nat.le_of_ble_eq_true rfl), (Nat.le_of_ble_eq_true rfl)⟩) (fun uN H locs hP hD hS => ?_)
  obtain ⟨aq44q8, aq44q17⟩ := uN
  have hP : va_P (dC, dI) vwCl [(a0, .inr (7, [.ref aq8, .ref aq17, .ref aq26, .ref aq34, .null, .int (0 : Int32), .int (0 : Int32), .int (0 : Int32), .int (0 : Int32)])), (aq8, .inl (cI, 316, .inl (fun _ => 0))), (aq17, .inl (cI, 316, .inl (fun _ => 0))), (aq26, .inl (cI, 316, .inl (fun _ => 0))), (aq34, .inl (cI, 19, .inl (fun _ => 0))), (aq40, .inr (8, [.ref aq44q8, .ref aq44q17])), (aq44q8, .inl (cI, 288, .inl (fun _ => 0))), (aq44q17, .inl (cI, 288, .inl (fun _ => 0)))] H := hP
  have hD : va_D A [(a0, .inr (7, [.ref aq8, .ref aq17, .ref aq26, .ref aq34, .null, .int (0 : Int32), .int (0 : Int32), .int (0 : Int32), .int (0 : Int32)])), (aq8, .inl (cI, 316, .inl (fun _ => 0))), (aq17, .inl (cI, 316, .inl (fun _ => 0))), (aq26, .inl (cI, 316, .inl (fun _ => 0))), (aq34, .inl (cI, 19, .inl (fun _ => 0))), (aq40, .inr (8, [.ref aq44q8, .ref aq44q17])), (aq44q8, .inl (cI, 288, .inl (fun _ => 0))), (aq44q17, .inl (cI, 288, .inl (fun _ => 0)))] := hD
  refine va_putF (D := (dC, dI)) (ci := 7) (v := .ref aq40) (ty := .object "BlockPacker$WriteCodes") (C := R_Tale) (T := F_Tale) (N := 9) hx hb hts in_Tale t_Tale t_Tale_ok n_Tale hown hK hP hD hS 0 rfl rfl 4 (by decide) (hts _ kw_70) (fun _ h9 => h9) rfl hin0 rfl (by decide +kernel) rfl rfl (Nat.le_of_ble_eq_true rfl) d_Tale_init_47 (fun H locs hP hD hS => ?_)
  have hP : va_P (dC, dI) vwCl [(a0, .inr (7, [.ref aq8, .ref aq17, .ref aq26, .ref aq34, .ref aq40, .int (0 : Int32), .int (0 : Int32), .int (0 : Int32), .int (0 : Int32)])), (aq8, .inl (cI, 316, .inl (fun _ => 0))), (aq17, .inl (cI, 316, .inl (fun _ => 0))), (aq26, .inl (cI, 316, .inl (fun _ => 0))), (aq34, .inl (cI, 19, .inl (fun _ => 0))), (aq40, .inr (8, [.ref aq44q8, .ref aq44q17])), (aq44q8, .inl (cI, 288, .inl (fun _ => 0))), (aq44q17, .inl (cI, 288, .inl (fun _ => 0)))] H := hP
  have hD : va_D A [(a0, .inr (7, [.ref aq8, .ref aq17, .ref aq26, .ref aq34, .ref aq40, .int (0 : Int32), .int (0 : Int32), .int (0 : Int32), .int (0 : Int32)])), (aq8, .inl (cI, 316, .inl (fun _ => 0))), (aq17, .inl (cI, 316, .inl (fun _ => 0))), (aq26, .inl (cI, 316, .inl (fun _ => 0))), (aq34, .inl (cI, 19, .inl (fun _ => 0))), (aq40, .inr (8, [.ref aq44q8, .ref aq44q17])), (aq44q8, .inl (cI, 288, .inl (fun _ => 0))), (aq44q17, .inl (cI, 288, .inl (fun _ => 0)))] := hD
  refine lv_aload_n hx hb d_Tale_init_50 rfl (lv_at hl 0 rfl) ?_
  refine lv_iconst (v := (0 : Int32)) hx hb d_Tale_init_51 (by decide) ?_
  refine va_put (D := (dC, dI)) (ci := 7) (v := .int (0 : Int32)) (ty := .int) (C := R_Tale) (T := F_Tale) (N := 9) hx hb hts in_Tale t_Tale t_Tale_ok n_Tale hown hK hP hD hS 0 rfl rfl 5 (by decide) (hts _ kw_71) (fun _ h9 => h9) rfl (by decide +kernel) rfl rfl (Nat.le_of_ble_eq_true rfl) d_Tale_init_52 (fun H locs hP hD hS => ?_)
  have hP : va_P (dC, dI) vwCl [(a0, .inr (7, [.ref aq8, .ref aq17, .ref aq26, .ref aq34, .ref aq40, .int (0 : Int32), .int (0 : Int32), .int (0 : Int32), .int (0 : Int32)])), (aq8, .inl (cI, 316, .inl (fun _ => 0))), (aq17, .inl (cI, 316, .inl (fun _ => 0))), (aq26, .inl (cI, 316, .inl (fun _ => 0))), (aq34, .inl (cI, 19, .inl (fun _ => 0))), (aq40, .inr (8, [.ref aq44q8, .ref aq44q17])), (aq44q8, .inl (cI, 288, .inl (fun _ => 0))), (aq44q17, .inl (cI, 288, .inl (fun _ => 0)))] H := hP
  have hD : va_D A [(a0, .inr (7, [.ref aq8, .ref aq17, .ref aq26, .ref aq34, .ref aq40, .int (0 : Int32), .int (0 : Int32), .int (0 : Int32), .int (0 : Int32)])), (aq8, .inl (cI, 316, .inl (fun _ => 0))), (aq17, .inl (cI, 316, .inl (fun _ => 0))), (aq26, .inl (cI, 316, .inl (fun _ => 0))), (aq34, .inl (cI, 19, .inl (fun _ => 0))), (aq40, .inr (8, [.ref aq44q8, .ref aq44q17])), (aq44q8, .inl (cI, 288, .inl (fun _ => 0))), (aq44q17, .inl (cI, 288, .inl (fun _ => 0)))] := hD
  refine lv_aload_n hx hb d_Tale_init_55 rfl (lv_at hl 0 rfl) ?_
  refine lv_iconst (v := (0 : Int32)) hx hb d_Tale_init_56 (by decide) ?_
  refine va_put (D := (dC, dI)) (ci := 7) (v := .int (0 : Int32)) (ty := .int) (C := R_Tale) (T := F_Tale) (N := 9) hx hb hts in_Tale t_Tale t_Tale_ok n_Tale hown hK hP hD hS 0 rfl rfl 6 (by decide) (hts _ kw_72) (fun _ h9 => h9) rfl (by decide +kernel) rfl rfl (Nat.le_of_ble_eq_true rfl) d_Tale_init_57 (fun H locs hP hD hS => ?_)
  have hP : va_P (dC, dI) vwCl [(a0, .inr (7, [.ref aq8, .ref aq17, .ref aq26, .ref aq34, .ref aq40, .int (0 : Int32), .int (0 : Int32), .int (0 : Int32), .int (0 : Int32)])), (aq8, .inl (cI, 316, .inl (fun _ => 0))), (aq17, .inl (cI, 316, .inl (fun _ => 0))), (aq26, .inl (cI, 316, .inl (fun _ => 0))), (aq34, .inl (cI, 19, .inl (fun _ => 0))), (aq40, .inr (8, [.ref aq44q8, .ref aq44q17])), (aq44q8, .inl (cI, 288, .inl (fun _ => 0))), (aq44q17, .inl (cI, 288, .inl (fun _ => 0)))] H := hP
  have hD : va_D A [(a0, .inr (7, [.ref aq8, .ref aq17, .ref aq26, .ref aq34, .ref aq40, .int (0 : Int32), .int (0 : Int32), .int (0 : Int32), .int (0 : Int32)])), (aq8, .inl (cI, 316, .inl (fun _ => 0))), (aq17, .inl (cI, 316, .inl (fun _ => 0))), (aq26, .inl (cI, 316, .inl (fun _ => 0))), (aq34, .inl (cI, 19, .inl (fun _ => 0))), (aq40, .inr (8, [.ref aq44q8, .ref aq44q17])), (aq44q8, .inl (cI, 288, .inl (fun _ => 0))), (aq44q17, .inl (cI, 288, .inl (fun _ => 0)))] := hD
  refine lv_aload_n hx hb d_Tale_init_60 rfl (lv_at hl 0 rfl) ?_
  refine lv_iconst (v := (0 : Int32)) hx hb d_Tale_init_61 (by decide) ?_
  refine va_put (D := (dC, dI)) (ci := 7) (v := .int (0 : Int32)) (ty := .int) (C := R_Tale) (T := F_Tale) (N := 9) hx hb hts in_Tale t_Tale t_Tale_ok n_Tale hown hK hP hD hS 0 rfl rfl 7 (by decide) (hts _ kw_73) (fun _ h9 => h9) rfl (by decide +kernel) rfl rfl (Nat.le_of_ble_eq_true rfl) d_Tale_init_62 (fun H locs hP hD hS => ?_)
  have hP : va_P (dC, dI) vwCl [(a0, .inr (7, [.ref aq8, .ref aq17, .ref aq26, .ref aq34, .ref aq40, .int (0 : Int32), .int (0 : Int32), .int (0 : Int32), .int (0 : Int32)])), (aq8, .inl (cI, 316, .inl (fun _ => 0))), (aq17, .inl (cI, 316, .inl (fun _ => 0))), (aq26, .inl (cI, 316, .inl (fun _ => 0))), (aq34, .inl (cI, 19, .inl (fun _ => 0))), (aq40, .inr (8, [.ref aq44q8, .ref aq44q17])), (aq44q8, .inl (cI, 288, .inl (fun _ => 0))), (aq44q17, .inl (cI, 288, .inl (fun _ => 0)))] H := hP
  have hD : va_D A [(a0, .inr (7, [.ref aq8, .ref aq17, .ref aq26, .ref aq34, .ref aq40, .int (0 : Int32), .int (0 : Int32), .int (0 : Int32), .int (0 : Int32)])), (aq8, .inl (cI, 316, .inl (fun _ => 0))), (aq17, .inl (cI, 316, .inl (fun _ => 0))), (aq26, .inl (cI, 316, .inl (fun _ => 0))), (aq34, .inl (cI, 19, .inl (fun _ => 0))), (aq40, .inr (8, [.ref aq44q8, .ref aq44q17])), (aq44q8, .inl (cI, 288, .inl (fun _ => 0))), (aq44q17, .inl (cI, 288, .inl (fun _ => 0)))] := hD
  refine lv_aload_n hx hb d_Tale_init_65 rfl (lv_at hl 0 rfl) ?_
  refine lv_iconst (v := (0 : Int32)) hx hb d_Tale_init_66 (by decide) ?_
  refine va_put (D := (dC, dI)) (ci := 7) (v := .int (0 : Int32)) (ty := .int) (C := R_Tale) (T := F_Tale) (N := 9) hx hb hts in_Tale t_Tale t_Tale_ok n_Tale hown hK hP hD hS 0 rfl rfl 8 (by decide) (hts _ kw_74) (fun _ h9 => h9) rfl (by decide +kernel) rfl rfl (Nat.le_of_ble_eq_true rfl) d_Tale_init_67 (fun H locs hP hD hS => ?_)
  have hP : va_P (dC, dI) vwCl [(a0, .inr (7, [.ref aq8, .ref aq17, .ref aq26, .ref aq34, .ref aq40, .int (0 : Int32), .int (0 : Int32), .int (0 : Int32), .int (0 : Int32)])), (aq8, .inl (cI, 316, .inl (fun _ => 0))), (aq17, .inl (cI, 316, .inl (fun _ => 0))), (aq26, .inl (cI, 316, .inl (fun _ => 0))), (aq34, .inl (cI, 19, .inl (fun _ => 0))), (aq40, .inr (8, [.ref aq44q8, .ref aq44q17])), (aq44q8, .inl (cI, 288, .inl (fun _ => 0))), (aq44q17, .inl (cI, 288, .inl (fun _ => 0)))] H := hP
  have hD : va_D A [(a0, .inr (7, [.ref aq8, .ref aq17, .ref aq26, .ref aq34, .ref aq40, .int (0 : Int32), .int (0 : Int32), .int (0 : Int32), .int (0 : Int32)])), (aq8, .inl (cI, 316, .inl (fun _ => 0))), (aq17, .inl (cI, 316, .inl (fun _ => 0))), (aq26, .inl (cI, 316, .inl (fun _ => 0))), (aq34, .inl (cI, 19, .inl (fun _ => 0))), (aq40, .inr (8, [.ref aq44q8, .ref aq44q17])), (aq44q8, .inl (cI, 288, .inl (fun _ => 0))), (aq44q17, .inl (cI, 288, .inl (fun _ => 0)))] := hD
  obtain rfl := Option.some.inj h
  exact W.vret hx hb hr (fun t ht hW => ⟨⟨⟨aq8, aq17, aq26, aq34, aq40, aq44q8, aq44q17⟩, rfl, trivial, by rw [ht]; exact hP.sub [0, 1, 2, 3, 4, 5, 6, 7] rfl, hD.sub [0, 1, 2, 3, 4, 5, 6, 7] (by decide) rfl⟩, hS.F ht⟩) hS.2.2 d_Tale_init_70
set_option maxHeartbeats 4000000 in
set_option maxRecDepth 100000 in
theorem c_Tale_init (l : Launch) (dC : Nat → ClassId) (dI : Nat → Nat → Nat) (cI cB cZ : ClassId) (tS : Nat) (a0 : Nat) (sz : Nat) (N : Nat) (x : Int32 × Int32 × Int32 × Int32) (hf : (g_Tale_init_0) = some x) : Met l y_Tale_init w_Tale_initS rm_Tale_init (gz_Pc [.ref a0] (dC, dI) vwCl [(cI, .int), (cB, .byte), (cZ, .boolean)] tS [(a0, .inr (7, [.null, .null, .null, .null, .null, .int (0 : Int32), .int (0 : Int32), .int (0 : Int32), .int (0 : Int32)]))] sz) (va_Qv (fun (_ : Nat × Nat × Nat × Nat × Nat × Nat × Nat) => True) (gz_B (dC, dI) vwCl (va_A [(a0, .inr (7, [.null, .null, .null, .null, .null, .int (0 : Int32), .int (0 : Int32), .int (0 : Int32), .int (0 : Int32)]))] sz) (e_Tale_init dC dI cI cB cZ a0 N x)) (va_A [(a0, .inr (7, [.null, .null, .null, .null, .null, .int (0 : Int32), .int (0 : Int32), .int (0 : Int32), .int (0 : Int32)]))] sz)) 7 1545 (va_A [(a0, .inr (7, [.null, .null, .null, .null, .null, .int (0 : Int32), .int (0 : Int32), .int (0 : Int32), .int (0 : Int32)]))] sz) := by
  refine Met.ofW (cc := b_Tale_init) (maxL := 1) (ret := none) (by decide) rfl ?_
  intro p e s m args below meth c s₁ B hml hv
  obtain ⟨rfl, hsz, hP, hK, hD0, hE⟩ := hv
  subst hsz
  have hl := lv_entry ([.ref a0]) (n := 1) (Nat.le_of_ble_eq_true rfl)
  rw [lg_entry_eq]
  generalize (lg_sl ([.ref a0]) ++ List.replicate (1 - (lg_sl ([.ref a0])).length) Slot.unset).toArray = ls at hl ⊢
  have C0 : gz_C p s m _ meth c b_Tale_init 1 none R_Tale "<init>" gz_W _ (dC, dI) vwCl [(cI, .int), (cB, .byte), (cZ, .boolean)] tS := ⟨B.exec, B.bytes, B.returns, hml, findClass_of_methodNamed B.named, (name_of_methodNamed B.named B.method).1, fun w h => atoms_spec (ws := w_Tale_initS) B.pre w (List.mem_cons_of_mem _ h), B.notSynchronized, fun q h => Or.inr h, hK, hE⟩
  exact w_Tale_init_0 C0 a0 N x  hf _ _ _ hP (hD0.self (sz := s.heap.size)) va_S.rf (lv_sub hl [0] rfl)
abbrev rm_Bp_fixedLength : Room := { frames := 0, cells := 0, slots := 0, locals := 0 }
abbrev e_Bp_fixedLength (dC : Nat → ClassId) (dI : Nat → Nat → Nat) (cI cB cZ : ClassId) (N : Nat) (x : Int32) (u : Unit) : va_W := []
abbrev q_Bp_fixedLength (below : List Frame) (args : Array Value) (s : State) (dC : Nat → ClassId) (dI : Nat → Nat → Nat) (cI cB cZ : ClassId) (A : Nat → Prop) (N : Nat) (x : Int32) : State → Prop := MQ below (va_Qi (fun r (_ : Unit) => r = x) (gz_B (dC, dI) vwCl A (e_Bp_fixedLength dC dI cI cB cZ N x)) A) args s 0 0 A
def t_Bp_fixedLength_0 (p : Program) (l : Launch) (e : Env) (s : State) (m : MethodId) (args : Array Value) (below : List Frame) (meth : Method) (c : Code) (dC : Nat → ClassId) (dI : Nat → Nat → Nat) (cI cB cZ : ClassId) (tS : Nat) (A : Nat → Prop) (N : Nat) (x : Int32) (F : Int32 → Option (Int32)) : Prop :=
  ∀ (x0 : Int32), F x0 = some x → ∀ (H : Heap) (locs : List Loc) (ls : Array Slot), va_P (dC, dI) vwCl [] H → va_D A [] → va_S A s.heap H locs → lv_has ls 1 [(0, .int x0)] → W p l e rm_Bp_fixedLength s m args below meth c H locs 0 0 (q_Bp_fixedLength below args s dC dI cI cB cZ A N x) (F0 m 0 ls [])
def g_Bp_fixedLength_0 (x0 : Int32) : Option (Int32) := (if (144 : Int32) ≤ x0 then (if (256 : Int32) ≤ x0 then (if (280 : Int32) ≤ x0 then some ((8 : Int32)) else some ((7 : Int32))) else some ((9 : Int32))) else some ((8 : Int32)))
set_option maxHeartbeats 4000000 in
set_option maxRecDepth 100000 in
theorem w_Bp_fixedLength_0 {p : Program} {l : Launch} {e : Env} {s : State} {m : MethodId} {args : Array Value} {below : List Frame} {meth : Method} {c : Code} {dC : Nat → ClassId} {dI : Nat → Nat → Nat} {cI cB cZ : ClassId} {tS : Nat} {A : Nat → Prop} (C0 : gz_C p s m args meth c b_Bp_fixedLength 1 (some .int) R_Bp "fixedLength" gz_W A (dC, dI) vwCl [(cI, .int), (cB, .byte), (cZ, .boolean)] tS) (N : Nat) (x : Int32) : t_Bp_fixedLength_0 p l e s m args below meth c dC dI cI cB cZ tS A N x (g_Bp_fixedLength_0) := by
  obtain ⟨hx, hb, hr, hml, hown, hin0, hts, hlocks, hA, hK, hE⟩ := id C0
  intro x0 h H locs ls hP hD hS hl
  rw [g_Bp_fixedLength_0] at h
  refine lv_iload_n hx hb d_Bp_fixedLength_0 rfl (lv_at hl 0 rfl) ?_
  refine lv_sipush (v := (144 : Int32)) hx hb d_Bp_fixedLength_1 (by decide) ?_
  refine lv_icmp_ge (tgt := 10) hx hb d_Bp_fixedLength_4 (by decide) (fun c1 => ?_) (fun c1 => ?_)
  · have h := gz_t h c1
    refine lv_iload_n hx hb d_Bp_fixedLength_10 rfl (lv_at hl 0 rfl) ?_
    refine lv_sipush (v := (256 : Int32)) hx hb d_Bp_fixedLength_11 (by decide) ?_
    refine lv_icmp_ge (tgt := 20) hx hb d_Bp_fixedLength_14 (by decide) (fun c2 => ?_) (fun c2 => ?_)
    · have h := gz_t h c2
      refine lv_iload_n hx hb d_Bp_fixedLength_20 rfl (lv_at hl 0 rfl) ?_
      refine lv_sipush (v := (280 : Int32)) hx hb d_Bp_fixedLength_21 (by decide) ?_
      refine lv_icmp_ge (tgt := 32) hx hb d_Bp_fixedLength_24 (by decide) (fun c3 => ?_) (fun c3 => ?_)
      · have h := gz_t h c3
        refine lv_bipush (v := (8 : Int32)) hx hb d_Bp_fixedLength_32 (by decide) ?_
        obtain rfl := Option.some.inj h
        exact W.iret (v := (8 : Int32)) hx hb hr (fun t ht hW => ⟨⟨(8 : Int32), (), rfl, rfl, by rw [ht]; exact hP.sub [] rfl, hD.sub [] (by decide) rfl⟩, hS.F ht⟩) hS.2.2 d_Bp_fixedLength_34
      · have h := gz_f h c3
        refine lv_bipush (v := (7 : Int32)) hx hb d_Bp_fixedLength_27 (by decide) ?_
        refine lv_goto (tgt := 34) hx hb d_Bp_fixedLength_29 (by decide) ?_
        obtain rfl := Option.some.inj h
        exact W.iret (v := (7 : Int32)) hx hb hr (fun t ht hW => ⟨⟨(7 : Int32), (), rfl, rfl, by rw [ht]; exact hP.sub [] rfl, hD.sub [] (by decide) rfl⟩, hS.F ht⟩) hS.2.2 d_Bp_fixedLength_34
    · have h := gz_f h c2
      refine lv_bipush (v := (9 : Int32)) hx hb d_Bp_fixedLength_17 (by decide) ?_
      obtain rfl := Option.some.inj h
      exact W.iret (v := (9 : Int32)) hx hb hr (fun t ht hW => ⟨⟨(9 : Int32), (), rfl, rfl, by rw [ht]; exact hP.sub [] rfl, hD.sub [] (by decide) rfl⟩, hS.F ht⟩) hS.2.2 d_Bp_fixedLength_19
  · have h := gz_f h c1
    refine lv_bipush (v := (8 : Int32)) hx hb d_Bp_fixedLength_7 (by decide) ?_
    obtain rfl := Option.some.inj h
    exact W.iret (v := (8 : Int32)) hx hb hr (fun t ht hW => ⟨⟨(8 : Int32), (), rfl, rfl, by rw [ht]; exact hP.sub [] rfl, hD.sub [] (by decide) rfl⟩, hS.F ht⟩) hS.2.2 d_Bp_fixedLength_9
set_option maxHeartbeats 4000000 in
set_option maxRecDepth 100000 in
theorem c_Bp_fixedLength (l : Launch) (dC : Nat → ClassId) (dI : Nat → Nat → Nat) (cI cB cZ : ClassId) (tS : Nat) (sz : Nat) (N : Nat) (x0 : Int32) (x : Int32) (hf : (g_Bp_fixedLength_0 x0) = some x) : Met l y_Bp_fixedLength w_Bp_fixedLengthS rm_Bp_fixedLength (gz_Pc [.int x0] (dC, dI) vwCl [(cI, .int), (cB, .byte), (cZ, .boolean)] tS [] sz) (va_Qi (fun r (_ : Unit) => r = x) (gz_B (dC, dI) vwCl (va_A [] sz) (e_Bp_fixedLength dC dI cI cB cZ N x)) (va_A [] sz)) 0 0 (va_A [] sz) := by
  refine Met.ofW (cc := b_Bp_fixedLength) (maxL := 1) (ret := (some .int)) (by decide) rfl ?_
  intro p e s m args below meth c s₁ B hml hv
  obtain ⟨rfl, hsz, hP, hK, hD0, hE⟩ := hv
  subst hsz
  have hl := lv_entry ([.int x0]) (n := 1) (Nat.le_of_ble_eq_true rfl)
  rw [lg_entry_eq]
  generalize (lg_sl ([.int x0]) ++ List.replicate (1 - (lg_sl ([.int x0])).length) Slot.unset).toArray = ls at hl ⊢
  have C0 : gz_C p s m _ meth c b_Bp_fixedLength 1 (some .int) R_Bp "fixedLength" gz_W _ (dC, dI) vwCl [(cI, .int), (cB, .byte), (cZ, .boolean)] tS := ⟨B.exec, B.bytes, B.returns, hml, findClass_of_methodNamed B.named, (name_of_methodNamed B.named B.method).1, fun w h => atoms_spec (ws := w_Bp_fixedLengthS) B.pre w (List.mem_cons_of_mem _ h), B.notSynchronized, fun q h => Or.inr h, hK, hE⟩
  exact w_Bp_fixedLength_0 C0 N x x0 hf _ _ _ hP (hD0.self (sz := s.heap.size)) va_S.rf (lv_sub hl [0] rfl)
abbrev rm_WriteCodes_turned : Room := { frames := 0, cells := 0, slots := 0, locals := 0 }
abbrev e_WriteCodes_turned (dC : Nat → ClassId) (dI : Nat → Nat → Nat) (cI cB cZ : ClassId) (a0 : Nat) (N : Nat) (x : Int32) (u : Unit) : va_W := []
abbrev q_WriteCodes_turned (below : List Frame) (args : Array Value) (s : State) (dC : Nat → ClassId) (dI : Nat → Nat → Nat) (cI cB cZ : ClassId) (A : Nat → Prop) (a0 : Nat) (N : Nat) (x : Int32) : State → Prop := MQ below (va_Qi (fun r (_ : Unit) => r = x) (gz_B (dC, dI) vwCl A (e_WriteCodes_turned dC dI cI cB cZ a0 N x)) A) args s 0 0 A
def t_WriteCodes_turned_L1 (p : Program) (l : Launch) (e : Env) (s : State) (m : MethodId) (args : Array Value) (below : List Frame) (meth : Method) (c : Code) (dC : Nat → ClassId) (dI : Nat → Nat → Nat) (cI cB cZ : ClassId) (tS : Nat) (A : Nat → Prop) (a0 : Nat) (N : Nat) (x : Int32) (F : Int32 → Int32 → Int32 → Int32 → Option (Int32)) : Prop :=
  ∀ (x1 : Int32) (x2 : Int32) (x3 : Int32) (x4 : Int32), F x1 x2 x3 x4 = some x → ∀ (H : Heap) (locs : List Loc) (ls : Array Slot), va_P (dC, dI) vwCl [] H → va_D A [] → va_S A s.heap H locs → lv_has ls 5 [(1, .int x1), (2, .int x2), (3, .int x3), (4, .int x4)] → W p l e rm_WriteCodes_turned s m args below meth c H locs 0 0 (q_WriteCodes_turned below args s dC dI cI cB cZ A a0 N x) (F0 m 5 ls [])
def t_WriteCodes_turned_0 (p : Program) (l : Launch) (e : Env) (s : State) (m : MethodId) (args : Array Value) (below : List Frame) (meth : Method) (c : Code) (dC : Nat → ClassId) (dI : Nat → Nat → Nat) (cI cB cZ : ClassId) (tS : Nat) (A : Nat → Prop) (a0 : Nat) (N : Nat) (x : Int32) (F : Int32 → Int32 → Option (Int32)) : Prop :=
  ∀ (x1 : Int32) (x2 : Int32), F x1 x2 = some x → ∀ (H : Heap) (locs : List Loc) (ls : Array Slot), va_P (dC, dI) vwCl [] H → va_D A [] → va_S A s.heap H locs → lv_has ls 5 [(1, .int x1), (2, .int x2)] → W p l e rm_WriteCodes_turned s m args below meth c H locs 0 0 (q_WriteCodes_turned below args s dC dI cI cB cZ A a0 N x) (F0 m 0 ls [])
def g_WriteCodes_turned_L1 : Nat → Int32 → Int32 → Int32 → Int32 → Option (Int32)
  | 0, _, _, _, _ => none
  | n + 1, x1, x2, x3, x4 => (if x2 ≤ x4 then some (x3) else (g_WriteCodes_turned_L1 n x1 x2 (((2 : Int32) * x3) + ((x1 >>> (x4 &&& 31)) &&& (1 : Int32))) (x4 + (1 : Int32))))
set_option maxHeartbeats 4000000 in
set_option maxRecDepth 100000 in
theorem w_WriteCodes_turned_L1 {p : Program} {l : Launch} {e : Env} {s : State} {m : MethodId} {args : Array Value} {below : List Frame} {meth : Method} {c : Code} {dC : Nat → ClassId} {dI : Nat → Nat → Nat} {cI cB cZ : ClassId} {tS : Nat} {A : Nat → Prop} (C0 : gz_C p s m args meth c b_WriteCodes_turned 5 (some .int) R_WriteCodes "turned" gz_W A (dC, dI) vwCl [(cI, .int), (cB, .byte), (cZ, .boolean)] tS) (a0 : Nat) (N : Nat) (x : Int32) : ∀ n : Nat, t_WriteCodes_turned_L1 p l e s m args below meth c dC dI cI cB cZ tS A a0 N x (g_WriteCodes_turned_L1 n) := by
  obtain ⟨hx, hb, hr, hml, hown, hin0, hts, hlocks, hA, hK, hE⟩ := id C0
  intro n
  induction n with
  | zero =>
    intro x1 x2 x3 x4 h
    cases h
  | succ n ih =>
    intro x1 x2 x3 x4 h H locs ls hP hD hS hl
    rw [g_WriteCodes_turned_L1] at h
    refine lv_iload hx hb d_WriteCodes_turned_5 (lv_at hl 3 rfl) ?_
    refine lv_iload_n hx hb d_WriteCodes_turned_7 rfl (lv_at hl 1 rfl) ?_
    refine lv_icmp_ge (tgt := 28) hx hb d_WriteCodes_turned_8 (by decide) (fun c1 => ?_) (fun c1 => ?_)
    · have h := gz_t h c1
      refine lv_iload_n hx hb d_WriteCodes_turned_28 rfl (lv_at hl 2 rfl) ?_
      obtain rfl := Option.some.inj h
      exact W.iret (v := x3) hx hb hr (fun t ht hW => ⟨⟨x3, (), rfl, rfl, by rw [ht]; exact hP.sub [] rfl, hD.sub [] (by decide) rfl⟩, hS.F ht⟩) hS.2.2 d_WriteCodes_turned_29
    · have h := gz_f h c1
      refine lv_iconst (v := (2 : Int32)) hx hb d_WriteCodes_turned_11 (by decide) ?_
      refine lv_iload_n hx hb d_WriteCodes_turned_12 rfl (lv_at hl 2 rfl) ?_
      refine lv_imul hx hb d_WriteCodes_turned_13 ?_
      refine lv_iload_n hx hb d_WriteCodes_turned_14 rfl (lv_at hl 0 rfl) ?_
      refine lv_iload hx hb d_WriteCodes_turned_15 (lv_at hl 3 rfl) ?_
      refine lv_ishr hx hb d_WriteCodes_turned_17 ?_
      refine lv_iconst (v := (1 : Int32)) hx hb d_WriteCodes_turned_18 (by decide) ?_
      refine lv_iand hx hb d_WriteCodes_turned_19 ?_
      refine lv_iadd hx hb d_WriteCodes_turned_20 ?_
      refine lv_istore_n (lv' := [(3, .int (((2 : Int32) * x3) + ((x1 >>> (x4 &&& 31)) &&& (1 : Int32)))), (1, .int x1), (2, .int x2), (4, .int x4)]) hx hb d_WriteCodes_turned_21 rfl hl (by decide) rfl (fun ls hl => ?_)
      refine lv_iinc (v := x4 + (1 : Int32)) (lv' := [(4, .int (x4 + (1 : Int32))), (3, .int (((2 : Int32) * x3) + ((x1 >>> (x4 &&& 31)) &&& (1 : Int32)))), (1, .int x1), (2, .int x2)]) hx hb d_WriteCodes_turned_22 hl (k := 3) rfl rfl (by decide) rfl (fun ls hl => ?_)
      refine lv_goto (tgt := 5) hx hb d_WriteCodes_turned_25 (by decide) ?_
      exact ih x1 x2 (((2 : Int32) * x3) + ((x1 >>> (x4 &&& 31)) &&& (1 : Int32))) (x4 + (1 : Int32)) h _ _ _ (hP.sub [] rfl) (hD.sub [] (by decide) rfl) hS (lv_sub hl [2, 3, 1, 0] rfl)
def g_WriteCodes_turned_0 (N : Nat) (x1 : Int32) (x2 : Int32) : Option (Int32) := (g_WriteCodes_turned_L1 N x1 x2 (0 : Int32) (0 : Int32))
set_option maxHeartbeats 4000000 in
set_option maxRecDepth 100000 in
theorem w_WriteCodes_turned_0 {p : Program} {l : Launch} {e : Env} {s : State} {m : MethodId} {args : Array Value} {below : List Frame} {meth : Method} {c : Code} {dC : Nat → ClassId} {dI : Nat → Nat → Nat} {cI cB cZ : ClassId} {tS : Nat} {A : Nat → Prop} (C0 : gz_C p s m args meth c b_WriteCodes_turned 5 (some .int) R_WriteCodes "turned" gz_W A (dC, dI) vwCl [(cI, .int), (cB, .byte), (cZ, .boolean)] tS) (a0 : Nat) (N : Nat) (x : Int32) : t_WriteCodes_turned_0 p l e s m args below meth c dC dI cI cB cZ tS A a0 N x (g_WriteCodes_turned_0 N) := by
  obtain ⟨hx, hb, hr, hml, hown, hin0, hts, hlocks, hA, hK, hE⟩ := id C0
  intro x1 x2 h H locs ls hP hD hS hl
  rw [g_WriteCodes_turned_0] at h
  refine lv_iconst (v := (0 : Int32)) hx hb d_WriteCodes_turned_0 (by decide) ?_
  refine lv_istore_n (lv' := [(3, .int (0 : Int32)), (1, .int x1), (2, .int x2)]) hx hb d_WriteCodes_turned_1 rfl hl (by decide) rfl (fun ls hl => ?_)
  refine lv_iconst (v := (0 : Int32)) hx hb d_WriteCodes_turned_2 (by decide) ?_
  refine lv_istore (lv' := [(4, .int (0 : Int32)), (3, .int (0 : Int32)), (1, .int x1), (2, .int x2)]) hx hb d_WriteCodes_turned_3 hl (by decide) rfl (fun ls hl => ?_)
  exact (w_WriteCodes_turned_L1 C0 a0 N x N) x1 x2 (0 : Int32) (0 : Int32) h _ _ _ (hP.sub [] rfl) (hD.sub [] (by decide) rfl) hS (lv_sub hl [2, 3, 1, 0] rfl)
set_option maxHeartbeats 4000000 in
set_option maxRecDepth 100000 in
theorem c_WriteCodes_turned (l : Launch) (dC : Nat → ClassId) (dI : Nat → Nat → Nat) (cI cB cZ : ClassId) (tS : Nat) (a0 : Nat) (sz : Nat) (N : Nat) (x1 : Int32) (x2 : Int32) (x : Int32) (hf : (g_WriteCodes_turned_0 N x1 x2) = some x) : Met l y_WriteCodes_turned w_WriteCodes_turnedS rm_WriteCodes_turned (gz_Pc [.ref a0, .int x1, .int x2] (dC, dI) vwCl [(cI, .int), (cB, .byte), (cZ, .boolean)] tS [] sz) (va_Qi (fun r (_ : Unit) => r = x) (gz_B (dC, dI) vwCl (va_A [] sz) (e_WriteCodes_turned dC dI cI cB cZ a0 N x)) (va_A [] sz)) 0 0 (va_A [] sz) := by
  refine Met.ofW (cc := b_WriteCodes_turned) (maxL := 5) (ret := (some .int)) (by decide) rfl ?_
  intro p e s m args below meth c s₁ B hml hv
  obtain ⟨rfl, hsz, hP, hK, hD0, hE⟩ := hv
  subst hsz
  have hl := lv_entry ([.ref a0, .int x1, .int x2]) (n := 5) (Nat.le_of_ble_eq_true rfl)
  rw [lg_entry_eq]
  generalize (lg_sl ([.ref a0, .int x1, .int x2]) ++ List.replicate (5 - (lg_sl ([.ref a0, .int x1, .int x2])).length) Slot.unset).toArray = ls at hl ⊢
  have C0 : gz_C p s m _ meth c b_WriteCodes_turned 5 (some .int) R_WriteCodes "turned" gz_W _ (dC, dI) vwCl [(cI, .int), (cB, .byte), (cZ, .boolean)] tS := ⟨B.exec, B.bytes, B.returns, hml, findClass_of_methodNamed B.named, (name_of_methodNamed B.named B.method).1, fun w h => atoms_spec (ws := w_WriteCodes_turnedS) B.pre w (List.mem_cons_of_mem _ h), B.notSynchronized, fun q h => Or.inr h, hK, hE⟩
  exact w_WriteCodes_turned_0 C0 a0 N x x1 x2 hf _ _ _ hP (hD0.self (sz := s.heap.size)) va_S.rf (lv_sub hl [1, 2] rfl)
abbrev rm_WriteCodes_makeCodes : Room := { frames := 1, cells := 0, slots := 0, locals := 24 }
abbrev e_WriteCodes_makeCodes (dC : Nat → ClassId) (dI : Nat → Nat → Nat) (cI cB cZ : ClassId) (a0 : Nat) (a0_lengths : Nat) (a0_turnedCodes : Nat) (N : Nat) (n0_lengths : Nat) (f0_lengths : Nat → Int32) (n0_turnedCodes : Nat) (x : (Nat → Int32)) (u : Unit) : va_W := [(a0, .inr (8, [.ref a0_lengths, .ref a0_turnedCodes])), (a0_lengths, .inl (cI, n0_lengths, .inl f0_lengths)), (a0_turnedCodes, .inl (cI, n0_turnedCodes, .inl x))]
abbrev q_WriteCodes_makeCodes (below : List Frame) (args : Array Value) (s : State) (dC : Nat → ClassId) (dI : Nat → Nat → Nat) (cI cB cZ : ClassId) (A : Nat → Prop) (a0 : Nat) (a0_lengths : Nat) (a0_turnedCodes : Nat) (N : Nat) (n0_lengths : Nat) (f0_lengths : Nat → Int32) (n0_turnedCodes : Nat) (x : (Nat → Int32)) : State → Prop := MQ below (va_Qv (fun (_ : Unit) => True) (gz_B (dC, dI) vwCl A (e_WriteCodes_makeCodes dC dI cI cB cZ a0 a0_lengths a0_turnedCodes N n0_lengths f0_lengths n0_turnedCodes x)) A) args s 0 0 A
def t_WriteCodes_makeCodes_L2 (p : Program) (l : Launch) (e : Env) (s : State) (m : MethodId) (args : Array Value) (below : List Frame) (meth : Method) (c : Code) (dC : Nat → ClassId) (dI : Nat → Nat → Nat) (cI cB cZ : ClassId) (tS : Nat) (A : Nat → Prop) (a0 : Nat) (a0_lengths : Nat) (a0_turnedCodes : Nat) (N : Nat) (n0_lengths : Nat) (f0_lengths : Nat → Int32) (n0_turnedCodes : Nat) (x : (Nat → Int32)) (F : Int32 → Int32 → Int32 → (Nat → Int32) → Option ((Nat → Int32))) : Prop :=
  ∀ (x1 : Int32) (x2 : Int32) (x3 : Int32) (f0_turnedCodes : Nat → Int32), F x1 x2 x3 f0_turnedCodes = some x → ∀ (H : Heap) (locs : List Loc) (ls : Array Slot), va_P (dC, dI) vwCl [(a0, .inr (8, [.ref a0_lengths, .ref a0_turnedCodes])), (a0_lengths, .inl (cI, n0_lengths, .inl f0_lengths)), (a0_turnedCodes, .inl (cI, n0_turnedCodes, .inl f0_turnedCodes))] H → va_D A [(a0, .inr (8, [.ref a0_lengths, .ref a0_turnedCodes])), (a0_lengths, .inl (cI, n0_lengths, .inl f0_lengths)), (a0_turnedCodes, .inl (cI, n0_turnedCodes, .inl f0_turnedCodes))] → va_S A s.heap H locs → lv_has ls 4 [(0, .ref a0), (1, .int x1), (2, .int x2), (3, .int x3)] → W p l e rm_WriteCodes_makeCodes s m args below meth c H locs 0 0 (q_WriteCodes_makeCodes below args s dC dI cI cB cZ A a0 a0_lengths a0_turnedCodes N n0_lengths f0_lengths n0_turnedCodes x) (F0 m 16 ls [])
def t_WriteCodes_makeCodes_L1 (p : Program) (l : Launch) (e : Env) (s : State) (m : MethodId) (args : Array Value) (below : List Frame) (meth : Method) (c : Code) (dC : Nat → ClassId) (dI : Nat → Nat → Nat) (cI cB cZ : ClassId) (tS : Nat) (A : Nat → Prop) (a0 : Nat) (a0_lengths : Nat) (a0_turnedCodes : Nat) (N : Nat) (n0_lengths : Nat) (f0_lengths : Nat → Int32) (n0_turnedCodes : Nat) (x : (Nat → Int32)) (F : Int32 → Int32 → (Nat → Int32) → Option ((Nat → Int32))) : Prop :=
  ∀ (x1 : Int32) (x2 : Int32) (f0_turnedCodes : Nat → Int32), F x1 x2 f0_turnedCodes = some x → ∀ (H : Heap) (locs : List Loc) (ls : Array Slot), va_P (dC, dI) vwCl [(a0, .inr (8, [.ref a0_lengths, .ref a0_turnedCodes])), (a0_lengths, .inl (cI, n0_lengths, .inl f0_lengths)), (a0_turnedCodes, .inl (cI, n0_turnedCodes, .inl f0_turnedCodes))] H → va_D A [(a0, .inr (8, [.ref a0_lengths, .ref a0_turnedCodes])), (a0_lengths, .inl (cI, n0_lengths, .inl f0_lengths)), (a0_turnedCodes, .inl (cI, n0_turnedCodes, .inl f0_turnedCodes))] → va_S A s.heap H locs → lv_has ls 4 [(0, .ref a0), (1, .int x1), (2, .int x2)] → W p l e rm_WriteCodes_makeCodes s m args below meth c H locs 0 0 (q_WriteCodes_makeCodes below args s dC dI cI cB cZ A a0 a0_lengths a0_turnedCodes N n0_lengths f0_lengths n0_turnedCodes x) (F0 m 4 ls [])
def t_WriteCodes_makeCodes_0 (p : Program) (l : Launch) (e : Env) (s : State) (m : MethodId) (args : Array Value) (below : List Frame) (meth : Method) (c : Code) (dC : Nat → ClassId) (dI : Nat → Nat → Nat) (cI cB cZ : ClassId) (tS : Nat) (A : Nat → Prop) (a0 : Nat) (a0_lengths : Nat) (a0_turnedCodes : Nat) (N : Nat) (n0_lengths : Nat) (f0_lengths : Nat → Int32) (n0_turnedCodes : Nat) (x : (Nat → Int32)) (F : (Nat → Int32) → Option ((Nat → Int32))) : Prop :=
  ∀ (f0_turnedCodes : Nat → Int32), F f0_turnedCodes = some x → ∀ (H : Heap) (locs : List Loc) (ls : Array Slot), va_P (dC, dI) vwCl [(a0, .inr (8, [.ref a0_lengths, .ref a0_turnedCodes])), (a0_lengths, .inl (cI, n0_lengths, .inl f0_lengths)), (a0_turnedCodes, .inl (cI, n0_turnedCodes, .inl f0_turnedCodes))] H → va_D A [(a0, .inr (8, [.ref a0_lengths, .ref a0_turnedCodes])), (a0_lengths, .inl (cI, n0_lengths, .inl f0_lengths)), (a0_turnedCodes, .inl (cI, n0_turnedCodes, .inl f0_turnedCodes))] → va_S A s.heap H locs → lv_has ls 4 [(0, .ref a0)] → W p l e rm_WriteCodes_makeCodes s m args below meth c H locs 0 0 (q_WriteCodes_makeCodes below args s dC dI cI cB cZ A a0 a0_lengths a0_turnedCodes N n0_lengths f0_lengths n0_turnedCodes x) (F0 m 0 ls [])
def g_WriteCodes_makeCodes_L2 (N : Nat) (n0_lengths : Nat) (f0_lengths : Nat → Int32) (n0_turnedCodes : Nat) (K_WriteCodes_makeCodes_L1 : Int32 → Int32 → (Nat → Int32) → Option ((Nat → Int32))) : Nat → Int32 → Int32 → Int32 → (Nat → Int32) → Option ((Nat → Int32))
  | 0, _, _, _, _ => none
  | n + 1, x1, x2, x3, f0_turnedCodes => (if (288 : Int32) ≤ x3 then (K_WriteCodes_makeCodes_L1 x1 (x2 + (1 : Int32)) f0_turnedCodes) else (if x3 < 0 ∨ n0_lengths ≤ x3.toNatClampNeg then none else (if (f0_lengths x3.toNatClampNeg) = x2 then (Option.bind (g_WriteCodes_turned_0 N x1 x2) (fun r5 => (if x3 < 0 ∨ n0_turnedCodes ≤ x3.toNatClampNeg then none else (g_WriteCodes_makeCodes_L2 N n0_lengths f0_lengths n0_turnedCodes K_WriteCodes_makeCodes_L1 n (x1 + (1 : Int32)) x2 (x3 + (1 : Int32)) (upd f0_turnedCodes x3.toNatClampNeg r5))))) else (g_WriteCodes_makeCodes_L2 N n0_lengths f0_lengths n0_turnedCodes K_WriteCodes_makeCodes_L1 n x1 x2 (x3 + (1 : Int32)) f0_turnedCodes))))
set_option maxHeartbeats 4000000 in
set_option maxRecDepth 100000 in
theorem w_WriteCodes_makeCodes_L2 {p : Program} {l : Launch} {e : Env} {s : State} {m : MethodId} {args : Array Value} {below : List Frame} {meth : Method} {c : Code} {dC : Nat → ClassId} {dI : Nat → Nat → Nat} {cI cB cZ : ClassId} {tS : Nat} {A : Nat → Prop} (C0 : gz_C p s m args meth c b_WriteCodes_makeCodes 4 none R_WriteCodes "makeCodes" gz_W A (dC, dI) vwCl [(cI, .int), (cB, .byte), (cZ, .boolean)] tS) (a0 : Nat) (a0_lengths : Nat) (a0_turnedCodes : Nat) (N : Nat) (n0_lengths : Nat) (f0_lengths : Nat → Int32) (n0_turnedCodes : Nat) (x : (Nat → Int32)) {K_WriteCodes_makeCodes_L1 : Int32 → Int32 → (Nat → Int32) → Option ((Nat → Int32))} (hK_WriteCodes_makeCodes_L1 : t_WriteCodes_makeCodes_L1 p l e s m args below meth c dC dI cI cB cZ tS A a0 a0_lengths a0_turnedCodes N n0_lengths f0_lengths n0_turnedCodes x K_WriteCodes_makeCodes_L1) : ∀ n : Nat, t_WriteCodes_makeCodes_L2 p l e s m args below meth c dC dI cI cB cZ tS A a0 a0_lengths a0_turnedCodes N n0_lengths f0_lengths n0_turnedCodes x (g_WriteCodes_makeCodes_L2 N n0_lengths f0_lengths n0_turnedCodes K_WriteCodes_makeCodes_L1 n) := by
  obtain ⟨hx, hb, hr, hml, hown, hin0, hts, hlocks, hA, hK, hE⟩ := id C0
  intro n
  induction n with
  | zero =>
    intro x1 x2 x3 f0_turnedCodes h
    cases h
  | succ n ih =>
    intro x1 x2 x3 f0_turnedCodes h H locs ls hP hD hS hl
    rw [g_WriteCodes_makeCodes_L2] at h
    refine lv_iload_n hx hb d_WriteCodes_makeCodes_16 rfl (lv_at hl 3 rfl) ?_
    refine lv_sipush (v := (288 : Int32)) hx hb d_WriteCodes_makeCodes_17 (by decide) ?_
    refine lv_icmp_ge (tgt := 54) hx hb d_WriteCodes_makeCodes_20 (by decide) (fun c2 => ?_) (fun c2 => ?_)
    · have h := gz_t h c2
      refine lv_iinc (v := x2 + (1 : Int32)) (lv' := [(2, .int (x2 + (1 : Int32))), (0, .ref a0), (1, .int x1), (3, .int x3)]) hx hb d_WriteCodes_makeCodes_54 hl (k := 2) rfl rfl (by decide) rfl (fun ls hl => ?_)
      refine lv_goto (tgt := 4) hx hb d_WriteCodes_makeCodes_57 (by decide) ?_
      exact hK_WriteCodes_makeCodes_L1 x1 (x2 + (1 : Int32)) f0_turnedCodes h _ _ _ (hP.sub [0, 1, 2] rfl) (hD.sub [0, 1, 2] (by decide) rfl) hS (lv_sub hl [1, 2, 0] rfl)
    · have h := gz_f h c2
      refine lv_aload_n hx hb d_WriteCodes_makeCodes_23 rfl (lv_at hl 0 rfl) ?_
      refine va_get (D := (dC, dI)) (ci := 8) (v := .ref a0_lengths) (C := R_WriteCodes) (T := F_WriteCodes) (N := 2) hx hb hts in_WriteCodes hown hK hP 0 rfl rfl 0 (by decide) (hts _ kw_66) (fun _ h9 => h9) rfl d_WriteCodes_makeCodes_24 ?_
      refine lv_iload_n hx hb d_WriteCodes_makeCodes_27 rfl (lv_at hl 3 rfl) ?_
      obtain ⟨hi3, h⟩ := gz_n h
      refine va_iald hx hb hK hP 1 0 rfl rfl hi3 d_WriteCodes_makeCodes_28 ?_
      refine lv_iload_n hx hb d_WriteCodes_makeCodes_29 rfl (lv_at hl 2 rfl) ?_
      refine lv_icmp_ne (tgt := 48) hx hb d_WriteCodes_makeCodes_30 (by decide) (fun c4 => ?_) (fun c4 => ?_)
      · have h := gz_f h c4
        refine lv_iinc (v := x3 + (1 : Int32)) (lv' := [(3, .int (x3 + (1 : Int32))), (0, .ref a0), (1, .int x1), (2, .int x2)]) hx hb d_WriteCodes_makeCodes_48 hl (k := 3) rfl rfl (by decide) rfl (fun ls hl => ?_)
        refine lv_goto (tgt := 16) hx hb d_WriteCodes_makeCodes_51 (by decide) ?_
        exact ih x1 x2 (x3 + (1 : Int32)) f0_turnedCodes h _ _ _ (hP.sub [0, 1, 2] rfl) (hD.sub [0, 1, 2] (by decide) rfl) hS (lv_sub hl [1, 2, 3, 0] rfl)
      · have h := gz_t h c4
        refine lv_aload_n hx hb d_WriteCodes_makeCodes_33 rfl (lv_at hl 0 rfl) ?_
        refine va_get (D := (dC, dI)) (ci := 8) (v := .ref a0_turnedCodes) (C := R_WriteCodes) (T := F_WriteCodes) (N := 2) hx hb hts in_WriteCodes hown hK hP 0 rfl rfl 1 (by decide) (hts _ kw_67) (fun _ h9 => h9) rfl d_WriteCodes_makeCodes_34 ?_
        refine lv_iload_n hx hb d_WriteCodes_makeCodes_37 rfl (lv_at hl 3 rfl) ?_
        refine lv_aload_n hx hb d_WriteCodes_makeCodes_38 rfl (lv_at hl 0 rfl) ?_
        refine lv_iload_n hx hb d_WriteCodes_makeCodes_39 rfl (lv_at hl 1 rfl) ?_
        refine lv_iload_n hx hb d_WriteCodes_makeCodes_40 rfl (lv_at hl 2 rfl) ?_
        obtain ⟨r5, hcr5, h⟩ := gz_b h
        refine gz_ci hP hD hS hA [] [0, 1, 2] (wr := [(a0, .inr (8, [.ref a0_lengths, .ref a0_turnedCodes])), (a0_lengths, .inl (cI, n0_lengths, .inl f0_lengths)), (a0_turnedCodes, .inl (cI, n0_turnedCodes, .inl f0_turnedCodes))]) rfl rfl (by decide) (by decide) (va_runV (As := [.int x1, .int x2]) (rest := [.int x3, .ref a0_turnedCodes]) ⟨hx, hb, hml, hown, hts⟩ (c_WriteCodes_turned l dC dI cI cB cZ tS a0 H.size N x1 x2 r5 hcr5) (cwV 2 hts (gz_gV kw_93 kw_94 kw_95 kw_64 kw_92) rfl rfl rfl (by decide +kernel) ⟨(Nat.le_of_ble_eq_true rfl), (Nat.le_of_ble_eq_true rfl)⟩) (gz_preV hK hE hP hD hS hA [] (by decide) rfl 0 8 rfl rfl) rfl rfl hl.1 rfl (lv_room (Nat.le_of_ble_eq_true rfl)) d_WriteCodes_makeCodes_41 ⟨(Nat.le_of_ble_eq_true rfl), (Nat.le_of_ble_eq_true rfl)⟩) (fun _ H locs hP hD hS => ?_)
        have hP : va_P (dC, dI) vwCl [(a0, .inr (8, [.ref a0_lengths, .ref a0_turnedCodes])), (a0_lengths, .inl (cI, n0_lengths, .inl f0_lengths)), (a0_turnedCodes, .inl (cI, n0_turnedCodes, .inl f0_turnedCodes))] H := hP
        have hD : va_D A [(a0, .inr (8, [.ref a0_lengths, .ref a0_turnedCodes])), (a0_lengths, .inl (cI, n0_lengths, .inl f0_lengths)), (a0_turnedCodes, .inl (cI, n0_turnedCodes, .inl f0_turnedCodes))] := hD
        obtain ⟨hi6, h⟩ := gz_n h
        refine va_iast hx hb hK hP hD hS 2 0 rfl rfl hi6 d_WriteCodes_makeCodes_44 (fun H locs hP hD hS => ?_)
        have hP : va_P (dC, dI) vwCl [(a0, .inr (8, [.ref a0_lengths, .ref a0_turnedCodes])), (a0_lengths, .inl (cI, n0_lengths, .inl f0_lengths)), (a0_turnedCodes, .inl (cI, n0_turnedCodes, .inl (upd f0_turnedCodes x3.toNatClampNeg r5)))] H := hP
        have hD : va_D A [(a0, .inr (8, [.ref a0_lengths, .ref a0_turnedCodes])), (a0_lengths, .inl (cI, n0_lengths, .inl f0_lengths)), (a0_turnedCodes, .inl (cI, n0_turnedCodes, .inl (upd f0_turnedCodes x3.toNatClampNeg r5)))] := hD
        refine lv_iinc (v := x1 + (1 : Int32)) (lv' := [(1, .int (x1 + (1 : Int32))), (0, .ref a0), (2, .int x2), (3, .int x3)]) hx hb d_WriteCodes_makeCodes_45 hl (k := 1) rfl rfl (by decide) rfl (fun ls hl => ?_)
        refine lv_iinc (v := x3 + (1 : Int32)) (lv' := [(3, .int (x3 + (1 : Int32))), (1, .int (x1 + (1 : Int32))), (0, .ref a0), (2, .int x2)]) hx hb d_WriteCodes_makeCodes_48 hl (k := 3) rfl rfl (by decide) rfl (fun ls hl => ?_)
        refine lv_goto (tgt := 16) hx hb d_WriteCodes_makeCodes_51 (by decide) ?_
        exact ih (x1 + (1 : Int32)) x2 (x3 + (1 : Int32)) (upd f0_turnedCodes x3.toNatClampNeg r5) h _ _ _ (hP.sub [0, 1, 2] rfl) (hD.sub [0, 1, 2] (by decide) rfl) hS (lv_sub hl [2, 1, 3, 0] rfl)
def g_WriteCodes_makeCodes_L1 (N : Nat) (n0_lengths : Nat) (f0_lengths : Nat → Int32) (n0_turnedCodes : Nat) : Nat → Int32 → Int32 → (Nat → Int32) → Option ((Nat → Int32))
  | 0, _, _, _ => none
  | n + 1, x1, x2, f0_turnedCodes => (if (15 : Int32) < x2 then some (f0_turnedCodes) else (g_WriteCodes_makeCodes_L2 N n0_lengths f0_lengths n0_turnedCodes (g_WriteCodes_makeCodes_L1 N n0_lengths f0_lengths n0_turnedCodes n) N ((2 : Int32) * x1) x2 (0 : Int32) f0_turnedCodes))
set_option maxHeartbeats 4000000 in
set_option maxRecDepth 100000 in
theorem w_WriteCodes_makeCodes_L1 {p : Program} {l : Launch} {e : Env} {s : State} {m : MethodId} {args : Array Value} {below : List Frame} {meth : Method} {c : Code} {dC : Nat → ClassId} {dI : Nat → Nat → Nat} {cI cB cZ : ClassId} {tS : Nat} {A : Nat → Prop} (C0 : gz_C p s m args meth c b_WriteCodes_makeCodes 4 none R_WriteCodes "makeCodes" gz_W A (dC, dI) vwCl [(cI, .int), (cB, .byte), (cZ, .boolean)] tS) (a0 : Nat) (a0_lengths : Nat) (a0_turnedCodes : Nat) (N : Nat) (n0_lengths : Nat) (f0_lengths : Nat → Int32) (n0_turnedCodes : Nat) (x : (Nat → Int32)) : ∀ n : Nat, t_WriteCodes_makeCodes_L1 p l e s m args below meth c dC dI cI cB cZ tS A a0 a0_lengths a0_turnedCodes N n0_lengths f0_lengths n0_turnedCodes x (g_WriteCodes_makeCodes_L1 N n0_lengths f0_lengths n0_turnedCodes n) := by
  obtain ⟨hx, hb, hr, hml, hown, hin0, hts, hlocks, hA, hK, hE⟩ := id C0
  intro n
  induction n with
  | zero =>
    intro x1 x2 f0_turnedCodes h
    cases h
  | succ n ih =>
    intro x1 x2 f0_turnedCodes h H locs ls hP hD hS hl
    rw [g_WriteCodes_makeCodes_L1] at h
    refine lv_iload_n hx hb d_WriteCodes_makeCodes_4 rfl (lv_at hl 2 rfl) ?_
    refine lv_bipush (v := (15 : Int32)) hx hb d_WriteCodes_makeCodes_5 (by decide) ?_
    refine lv_icmp_gt (tgt := 60) hx hb d_WriteCodes_makeCodes_7 (by decide) (fun c1 => ?_) (fun c1 => ?_)
    · have h := gz_t h c1
      obtain rfl := Option.some.inj h
      exact W.vret hx hb hr (fun t ht hW => ⟨⟨(), rfl, trivial, by rw [ht]; exact hP.sub [0, 1, 2] rfl, hD.sub [0, 1, 2] (by decide) rfl⟩, hS.F ht⟩) hS.2.2 d_WriteCodes_makeCodes_60
    · have h := gz_f h c1
      refine lv_iconst (v := (2 : Int32)) hx hb d_WriteCodes_makeCodes_10 (by decide) ?_
      refine lv_iload_n hx hb d_WriteCodes_makeCodes_11 rfl (lv_at hl 1 rfl) ?_
      refine lv_imul hx hb d_WriteCodes_makeCodes_12 ?_
      refine lv_istore_n (lv' := [(1, .int ((2 : Int32) * x1)), (0, .ref a0), (2, .int x2)]) hx hb d_WriteCodes_makeCodes_13 rfl hl (by decide) rfl (fun ls hl => ?_)
      refine lv_iconst (v := (0 : Int32)) hx hb d_WriteCodes_makeCodes_14 (by decide) ?_
      refine lv_istore_n (lv' := [(3, .int (0 : Int32)), (1, .int ((2 : Int32) * x1)), (0, .ref a0), (2, .int x2)]) hx hb d_WriteCodes_makeCodes_15 rfl hl (by decide) rfl (fun ls hl => ?_)
      exact (w_WriteCodes_makeCodes_L2 C0 a0 a0_lengths a0_turnedCodes N n0_lengths f0_lengths n0_turnedCodes x ih N) ((2 : Int32) * x1) x2 (0 : Int32) f0_turnedCodes h _ _ _ (hP.sub [0, 1, 2] rfl) (hD.sub [0, 1, 2] (by decide) rfl) hS (lv_sub hl [2, 1, 3, 0] rfl)
def g_WriteCodes_makeCodes_0 (N : Nat) (n0_lengths : Nat) (f0_lengths : Nat → Int32) (n0_turnedCodes : Nat) (f0_turnedCodes : Nat → Int32) : Option ((Nat → Int32)) := (g_WriteCodes_makeCodes_L1 N n0_lengths f0_lengths n0_turnedCodes N (0 : Int32) (1 : Int32) f0_turnedCodes)
set_option maxHeartbeats 4000000 in
set_option maxRecDepth 100000 in
theorem w_WriteCodes_makeCodes_0 {p : Program} {l : Launch} {e : Env} {s : State} {m : MethodId} {args : Array Value} {below : List Frame} {meth : Method} {c : Code} {dC : Nat → ClassId} {dI : Nat → Nat → Nat} {cI cB cZ : ClassId} {tS : Nat} {A : Nat → Prop} (C0 : gz_C p s m args meth c b_WriteCodes_makeCodes 4 none R_WriteCodes "makeCodes" gz_W A (dC, dI) vwCl [(cI, .int), (cB, .byte), (cZ, .boolean)] tS) (a0 : Nat) (a0_lengths : Nat) (a0_turnedCodes : Nat) (N : Nat) (n0_lengths : Nat) (f0_lengths : Nat → Int32) (n0_turnedCodes : Nat) (x : (Nat → Int32)) : t_WriteCodes_makeCodes_0 p l e s m args below meth c dC dI cI cB cZ tS A a0 a0_lengths a0_turnedCodes N n0_lengths f0_lengths n0_turnedCodes x (g_WriteCodes_makeCodes_0 N n0_lengths f0_lengths n0_turnedCodes) := by
  obtain ⟨hx, hb, hr, hml, hown, hin0, hts, hlocks, hA, hK, hE⟩ := id C0
  intro f0_turnedCodes h H locs ls hP hD hS hl
  rw [g_WriteCodes_makeCodes_0] at h
  refine lv_iconst (v := (0 : Int32)) hx hb d_WriteCodes_makeCodes_0 (by decide) ?_
  refine lv_istore_n (lv' := [(1, .int (0 : Int32)), (0, .ref a0)]) hx hb d_WriteCodes_makeCodes_1 rfl hl (by decide) rfl (fun ls hl => ?_)
  refine lv_iconst (v := (1 : Int32)) hx hb d_WriteCodes_makeCodes_2 (by decide) ?_
  refine lv_istore_n (lv' := [(2, .int (1 : Int32)), (1, .int (0 : Int32)), (0, .ref a0)]) hx hb d_WriteCodes_makeCodes_3 rfl hl (by decide) rfl (fun ls hl => ?_)
  exact (w_WriteCodes_makeCodes_L1 C0 a0 a0_lengths a0_turnedCodes N n0_lengths f0_lengths n0_turnedCodes x N) (0 : Int32) (1 : Int32) f0_turnedCodes h _ _ _ (hP.sub [0, 1, 2] rfl) (hD.sub [0, 1, 2] (by decide) rfl) hS (lv_sub hl [2, 1, 0] rfl)
set_option maxHeartbeats 4000000 in
set_option maxRecDepth 100000 in
theorem c_WriteCodes_makeCodes (l : Launch) (dC : Nat → ClassId) (dI : Nat → Nat → Nat) (cI cB cZ : ClassId) (tS : Nat) (a0 : Nat) (a0_lengths : Nat) (a0_turnedCodes : Nat) (sz : Nat) (N : Nat) (n0_lengths : Nat) (f0_lengths : Nat → Int32) (n0_turnedCodes : Nat) (f0_turnedCodes : Nat → Int32) (x : (Nat → Int32)) (hf : (g_WriteCodes_makeCodes_0 N n0_lengths f0_lengths n0_turnedCodes f0_turnedCodes) = some x) : Met l y_WriteCodes_makeCodes w_WriteCodes_makeCodesS rm_WriteCodes_makeCodes (gz_Pc [.ref a0] (dC, dI) vwCl [(cI, .int), (cB, .byte), (cZ, .boolean)] tS [(a0, .inr (8, [.ref a0_lengths, .ref a0_turnedCodes])), (a0_lengths, .inl (cI, n0_lengths, .inl f0_lengths)), (a0_turnedCodes, .inl (cI, n0_turnedCodes, .inl f0_turnedCodes))] sz) (va_Qv (fun (_ : Unit) => True) (gz_B (dC, dI) vwCl (va_A [(a0, .inr (8, [.ref a0_lengths, .ref a0_turnedCodes])), (a0_lengths, .inl (cI, n0_lengths, .inl f0_lengths)), (a0_turnedCodes, .inl (cI, n0_turnedCodes, .inl f0_turnedCodes))] sz) (e_WriteCodes_makeCodes dC dI cI cB cZ a0 a0_lengths a0_turnedCodes N n0_lengths f0_lengths n0_turnedCodes x)) (va_A [(a0, .inr (8, [.ref a0_lengths, .ref a0_turnedCodes])), (a0_lengths, .inl (cI, n0_lengths, .inl f0_lengths)), (a0_turnedCodes, .inl (cI, n0_turnedCodes, .inl f0_turnedCodes))] sz)) 0 0 (va_A [(a0, .inr (8, [.ref a0_lengths, .ref a0_turnedCodes])), (a0_lengths, .inl (cI, n0_lengths, .inl f0_lengths)), (a0_turnedCodes, .inl (cI, n0_turnedCodes, .inl f0_turnedCodes))] sz) := by
  refine Met.ofW (cc := b_WriteCodes_makeCodes) (maxL := 4) (ret := none) (by decide) rfl ?_
  intro p e s m args below meth c s₁ B hml hv
  obtain ⟨rfl, hsz, hP, hK, hD0, hE⟩ := hv
  subst hsz
  have hl := lv_entry ([.ref a0]) (n := 4) (Nat.le_of_ble_eq_true rfl)
  rw [lg_entry_eq]
  generalize (lg_sl ([.ref a0]) ++ List.replicate (4 - (lg_sl ([.ref a0])).length) Slot.unset).toArray = ls at hl ⊢
  have C0 : gz_C p s m _ meth c b_WriteCodes_makeCodes 4 none R_WriteCodes "makeCodes" gz_W _ (dC, dI) vwCl [(cI, .int), (cB, .byte), (cZ, .boolean)] tS := ⟨B.exec, B.bytes, B.returns, hml, findClass_of_methodNamed B.named, (name_of_methodNamed B.named B.method).1, fun w h => atoms_spec (ws := w_WriteCodes_makeCodesS) B.pre w (List.mem_cons_of_mem _ h), B.notSynchronized, fun q h => Or.inr h, hK, hE⟩
  exact w_WriteCodes_makeCodes_0 C0 a0 a0_lengths a0_turnedCodes N n0_lengths f0_lengths n0_turnedCodes x f0_turnedCodes hf _ _ _ hP (hD0.self (sz := s.heap.size)) va_S.rf (lv_sub hl [0] rfl)
