abbrev rm_Mo_size : Room := { frames := 0, cells := 0, slots := 0, locals := 0 }
abbrev e_Mo_size (dC : Nat → ClassId) (dI : Nat → Nat → Nat) (cI cB cZ : ClassId) (a0 : Nat) (a0_input : Nat) (a0_output : Nat) (a0_told : Nat) (a0_lengths : Nat) (a0_small : Nat) (a0_row : Nat) (a0_tokenLength : Nat) (a0_tokenValue : Nat) (a0_counts : Nat) (a0_smallCounts : Nat) (a0_step : Nat) (a0_stepMore : Nat) (a0_order : Nat) (a0_listed : Nat) (a0_before : Nat) (a0_isSymbol : Nat) (a0_listSize : Nat) (a0_latest : Nat) (N : Nat) (v0_inputSize : Int32) (v0_outputSize : Int32) (v0_bits : Int32) (v0_fault : Int32) (v0_tokens : Int32) (v0_steps : Int32) (v0_bitAt : Int32) (x : Int32) (u : Unit) : va_W := [(a0, .inr (10, [.int v0_inputSize, .ref a0_input, .int v0_outputSize, .ref a0_output, .ref a0_told, .int v0_bits, .int v0_fault, .ref a0_lengths, .ref a0_small, .ref a0_row, .int v0_tokens, .ref a0_tokenLength, .ref a0_tokenValue, .ref a0_counts, .ref a0_smallCounts, .int v0_steps, .ref a0_step, .ref a0_stepMore, .int v0_bitAt, .ref a0_order, .ref a0_listed, .ref a0_before, .ref a0_isSymbol, .ref a0_listSize, .ref a0_latest]))]
abbrev q_Mo_size (below : List Frame) (args : Array Value) (s : State) (dC : Nat → ClassId) (dI : Nat → Nat → Nat) (cI cB cZ : ClassId) (A : Nat → Prop) (a0 : Nat) (a0_input : Nat) (a0_output : Nat) (a0_told : Nat) (a0_lengths : Nat) (a0_small : Nat) (a0_row : Nat) (a0_tokenLength : Nat) (a0_tokenValue : Nat) (a0_counts : Nat) (a0_smallCounts : Nat) (a0_step : Nat) (a0_stepMore : Nat) (a0_order : Nat) (a0_listed : Nat) (a0_before : Nat) (a0_isSymbol : Nat) (a0_listSize : Nat) (a0_latest : Nat) (N : Nat) (v0_inputSize : Int32) (v0_outputSize : Int32) (v0_bits : Int32) (v0_fault : Int32) (v0_tokens : Int32) (v0_steps : Int32) (v0_bitAt : Int32) (x : Int32) : State → Prop := MQ below (va_Qi (fun r (_ : Unit) => r = x) (gz_B (dC, dI) vwCl A (e_Mo_size dC dI cI cB cZ a0 a0_input a0_output a0_told a0_lengths a0_small a0_row a0_tokenLength a0_tokenValue a0_counts a0_smallCounts a0_step a0_stepMore a0_order a0_listed a0_before a0_isSymbol a0_listSize a0_latest N v0_inputSize v0_outputSize v0_bits v0_fault v0_tokens v0_steps v0_bitAt x)) A) args s 0 0 A
def t_Mo_size_0 (p : Program) (l : Launch) (e : Env) (s : State) (m : MethodId) (args : Array Value) (below : List Frame) (meth : Method) (c : Code) (dC : Nat → ClassId) (dI : Nat → Nat → Nat) (cI cB cZ : ClassId) (tS : Nat) (A : Nat → Prop) (a0 : Nat) (a0_input : Nat) (a0_output : Nat) (a0_told : Nat) (a0_lengths : Nat) (a0_small : Nat) (a0_row : Nat) (a0_tokenLength : Nat) (a0_tokenValue : Nat) (a0_counts : Nat) (a0_smallCounts : Nat) (a0_step : Nat) (a0_stepMore : Nat) (a0_order : Nat) (a0_listed : Nat) (a0_before : Nat) (a0_isSymbol : Nat) (a0_listSize : Nat) (a0_latest : Nat) (N : Nat) (v0_inputSize : Int32) (v0_outputSize : Int32) (v0_bits : Int32) (v0_fault : Int32) (v0_tokens : Int32) (v0_steps : Int32) (v0_bitAt : Int32) (x : Int32) (F : Int32 → Option (Int32)) : Prop :=
  ∀ (x1 : Int32), F x1 = some x → ∀ (H : Heap) (locs : List Loc) (ls : Array Slot), va_P (dC, dI) vwCl [(a0, .inr (10, [.int v0_inputSize, .ref a0_input, .int v0_outputSize, .ref a0_output, .ref a0_told, .int v0_bits, .int v0_fault, .ref a0_lengths, .ref a0_small, .ref a0_row, .int v0_tokens, .ref a0_tokenLength, .ref a0_tokenValue, .ref a0_counts, .ref a0_smallCounts, .int v0_steps, .ref a0_step, .ref a0_stepMore, .int v0_bitAt, .ref a0_order, .ref a0_listed, .ref a0_before, .ref a0_isSymbol, .ref a0_listSize, .ref a0_latest]))] H → va_D A [(a0, .inr (10, [.int v0_inputSize, .ref a0_input, .int v0_outputSize, .ref a0_output, .ref a0_told, .int v0_bits, .int v0_fault, .ref a0_lengths, .ref a0_small, .ref a0_row, .int v0_tokens, .ref a0_tokenLength, .ref a0_tokenValue, .ref a0_counts, .ref a0_smallCounts, .int v0_steps, .ref a0_step, .ref a0_stepMore, .int v0_bitAt, .ref a0_order, .ref a0_listed, .ref a0_before, .ref a0_isSymbol, .ref a0_listSize, .ref a0_latest]))] → va_S A s.heap H locs → lv_has ls 2 [(0, .ref a0), (1, .int x1)] → W p l e rm_Mo_size s m args below meth c H locs 0 0 (q_Mo_size below args s dC dI cI cB cZ A a0 a0_input a0_output a0_told a0_lengths a0_small a0_row a0_tokenLength a0_tokenValue a0_counts a0_smallCounts a0_step a0_stepMore a0_order a0_listed a0_before a0_isSymbol a0_listSize a0_latest N v0_inputSize v0_outputSize v0_bits v0_fault v0_tokens v0_steps v0_bitAt x) (F0 m 0 ls [])
def g_Mo_size_0 (v0_inputSize : Int32) (v0_outputSize : Int32) (x1 : Int32) : Option (Int32) := (if x1 = 0 then some (v0_inputSize) else (if x1 = (1 : Int32) then some (v0_outputSize) else some ((-2 : Int32))))
set_option maxHeartbeats 4000000 in
set_option maxRecDepth 100000 in
theorem w_Mo_size_0 {p : Program} {l : Launch} {e : Env} {s : State} {m : MethodId} {args : Array Value} {below : List Frame} {meth : Method} {c : Code} {dC : Nat → ClassId} {dI : Nat → Nat → Nat} {cI cB cZ : ClassId} {tS : Nat} {A : Nat → Prop} (C0 : gz_C p s m args meth c b_Mo_size 2 (some .int) R_Mo "size" gz_W A (dC, dI) vwCl [(cI, .int), (cB, .byte), (cZ, .boolean)] tS) (a0 : Nat) (a0_input : Nat) (a0_output : Nat) (a0_told : Nat) (a0_lengths : Nat) (a0_small : Nat) (a0_row : Nat) (a0_tokenLength : Nat) (a0_tokenValue : Nat) (a0_counts : Nat) (a0_smallCounts : Nat) (a0_step : Nat) (a0_stepMore : Nat) (a0_order : Nat) (a0_listed : Nat) (a0_before : Nat) (a0_isSymbol : Nat) (a0_listSize : Nat) (a0_latest : Nat) (N : Nat) (v0_inputSize : Int32) (v0_outputSize : Int32) (v0_bits : Int32) (v0_fault : Int32) (v0_tokens : Int32) (v0_steps : Int32) (v0_bitAt : Int32) (x : Int32) : t_Mo_size_0 p l e s m args below meth c dC dI cI cB cZ tS A a0 a0_input a0_output a0_told a0_lengths a0_small a0_row a0_tokenLength a0_tokenValue a0_counts a0_smallCounts a0_step a0_stepMore a0_order a0_listed a0_before a0_isSymbol a0_listSize a0_latest N v0_inputSize v0_outputSize v0_bits v0_fault v0_tokens v0_steps v0_bitAt x (g_Mo_size_0 v0_inputSize v0_outputSize) := by
  obtain ⟨hx, hb, hr, hml, hown, hin0, hts, hlocks, hA, hK, hE⟩ := id C0
  intro x1 h H locs ls hP hD hS hl
  rw [g_Mo_size_0] at h
  refine lv_iload_n hx hb d_Mo_size_0 rfl (lv_at hl 1 rfl) ?_
  refine lv_if_ne (tgt := 11) hx hb d_Mo_size_1 (by decide) (fun c1 => ?_) (fun c1 => ?_)
  · have h := gz_f h c1
    refine lv_iload_n hx hb d_Mo_size_11 rfl (lv_at hl 1 rfl) ?_
    refine lv_iconst (v := (1 : Int32)) hx hb d_Mo_size_12 (by decide) ?_
    refine lv_icmp_ne (tgt := 23) hx hb d_Mo_size_13 (by decide) (fun c2 => ?_) (fun c2 => ?_)
    · have h := gz_f h c2
      refine lv_bipush (v := (-2 : Int32)) hx hb d_Mo_size_23 (by decide) ?_
      obtain rfl := Option.some.inj h
      exact W.iret (v := (-2 : Int32)) hx hb hr (fun t ht hW => ⟨⟨(-2 : Int32), (), rfl, rfl, by rw [ht]; exact hP.sub [0] rfl, hD.sub [0] (by decide) rfl⟩, hS.F ht⟩) hS.2.2 d_Mo_size_25
    · have h := gz_t h c2
      refine lv_aload_n hx hb d_Mo_size_16 rfl (lv_at hl 0 rfl) ?_
      refine va_get (D := (dC, dI)) (ci := 10) (v := .int v0_outputSize) (C := R_Mo) (T := F_Mo) (N := 25) hx hb hts in_Mo hown hK hP 0 rfl rfl 2 (by decide) (hts _ kw_488) (fun _ h9 => h9) rfl d_Mo_size_17 ?_
      refine lv_goto (tgt := 25) hx hb d_Mo_size_20 (by decide) ?_
      obtain rfl := Option.some.inj h
      exact W.iret (v := v0_outputSize) hx hb hr (fun t ht hW => ⟨⟨v0_outputSize, (), rfl, rfl, by rw [ht]; exact hP.sub [0] rfl, hD.sub [0] (by decide) rfl⟩, hS.F ht⟩) hS.2.2 d_Mo_size_25
  · have h := gz_t h c1
    refine lv_aload_n hx hb d_Mo_size_4 rfl (lv_at hl 0 rfl) ?_
    refine va_get (D := (dC, dI)) (ci := 10) (v := .int v0_inputSize) (C := R_Mo) (T := F_Mo) (N := 25) hx hb hts in_Mo hown hK hP 0 rfl rfl 0 (by decide) (hts _ kw_485) (fun _ h9 => h9) rfl d_Mo_size_5 ?_
    refine lv_goto (tgt := 25) hx hb d_Mo_size_8 (by decide) ?_
    obtain rfl := Option.some.inj h
    exact W.iret (v := v0_inputSize) hx hb hr (fun t ht hW => ⟨⟨v0_inputSize, (), rfl, rfl, by rw [ht]; exact hP.sub [0] rfl, hD.sub [0] (by decide) rfl⟩, hS.F ht⟩) hS.2.2 d_Mo_size_25
set_option maxHeartbeats 4000000 in
set_option maxRecDepth 100000 in
theorem c_Mo_size (l : Launch) (dC : Nat → ClassId) (dI : Nat → Nat → Nat) (cI cB cZ : ClassId) (tS : Nat) (a0 : Nat) (a0_input : Nat) (a0_output : Nat) (a0_told : Nat) (a0_lengths : Nat) (a0_small : Nat) (a0_row : Nat) (a0_tokenLength : Nat) (a0_tokenValue : Nat) (a0_counts : Nat) (a0_smallCounts : Nat) (a0_step : Nat) (a0_stepMore : Nat) (a0_order : Nat) (a0_listed : Nat) (a0_before : Nat) (a0_isSymbol : Nat) (a0_listSize : Nat) (a0_latest : Nat) (sz : Nat) (N : Nat) (v0_inputSize : Int32) (v0_outputSize : Int32) (v0_bits : Int32) (v0_fault : Int32) (v0_tokens : Int32) (v0_steps : Int32) (v0_bitAt : Int32) (x1 : Int32) (x : Int32) (hf : (g_Mo_size_0 v0_inputSize v0_outputSize x1) = some x) : Met l y_Mo_size w_Mo_sizeS rm_Mo_size (gz_Pc [.ref a0, .int x1] (dC, dI) vwCl [(cI, .int), (cB, .byte), (cZ, .boolean)] tS [(a0, .inr (10, [.int v0_inputSize, .ref a0_input, .int v0_outputSize, .ref a0_output, .ref a0_told, .int v0_bits, .int v0_fault, .ref a0_lengths, .ref a0_small, .ref a0_row, .int v0_tokens, .ref a0_tokenLength, .ref a0_tokenValue, .ref a0_counts, .ref a0_smallCounts, .int v0_steps, .ref a0_step, .ref a0_stepMore, .int v0_bitAt, .ref a0_order, .ref a0_listed, .ref a0_before, .ref a0_isSymbol, .ref a0_listSize, .ref a0_latest]))] sz) (va_Qi (fun r (_ : Unit) => r = x) (gz_B (dC, dI) vwCl (va_A [(a0, .inr (10, [.int v0_inputSize, .ref a0_input, .int v0_outputSize, .ref a0_output, .ref a0_told, .int v0_bits, .int v0_fault, .ref a0_lengths, .ref a0_small, .ref a0_row, .int v0_tokens, .ref a0_tokenLength, .ref a0_tokenValue, .ref a0_counts, .ref a0_smallCounts, .int v0_steps, .ref a0_step, .ref a0_stepMore, .int v0_bitAt, .ref a0_order, .ref a0_listed, .ref a0_before, .ref a0_isSymbol, .ref a0_listSize, .ref a0_latest]))] sz) (e_Mo_size dC dI cI cB cZ a0 a0_input a0_output a0_told a0_lengths a0_small a0_row a0_tokenLength a0_tokenValue a0_counts a0_smallCounts a0_step a0_stepMore a0_order a0_listed a0_before a0_isSymbol a0_listSize a0_latest N v0_inputSize v0_outputSize v0_bits v0_fault v0_tokens v0_steps v0_bitAt x)) (va_A [(a0, .inr (10, [.int v0_inputSize, .ref a0_input, .int v0_outputSize, .ref a0_output, .ref a0_told, .int v0_bits, .int v0_fault, .ref a0_lengths, .ref a0_small, .ref a0_row, .int v0_tokens, .ref a0_tokenLength, .ref a0_tokenValue, .ref a0_counts, .ref a0_smallCounts, .int v0_steps, .ref a0_step, .ref a0_stepMore, .int v0_bitAt, .ref a0_order, .ref a0_listed, .ref a0_before, .ref a0_isSymbol, .ref a0_listSize, .ref a0_latest]))] sz)) 0 0 (va_A [(a0, .inr (10, [.int v0_inputSize, .ref a0_input, .int v0_outputSize, .ref a0_output, .ref a0_told, .int v0_bits, .int v0_fault, .ref a0_lengths, .ref a0_small, .ref a0_row, .int v0_tokens, .ref a0_tokenLength, .ref a0_tokenValue, .ref a0_counts, .ref a0_smallCounts, .int v0_steps, .ref a0_step, .ref a0_stepMore, .int v0_bitAt, .ref a0_order, .ref a0_listed, .ref a0_before, .ref a0_isSymbol, .ref a0_listSize, .ref a0_latest]))] sz) := by
  refine Met.ofW (cc := b_Mo_size) (maxL := 2) (ret := (some .int)) (by decide) rfl ?_
  intro p e s m args below meth c s₁ B hml hv
  obtain ⟨rfl, hsz, hP, hK, hD0, hE⟩ := hv
  subst hsz
  have hl := lv_entry ([.ref a0, .int x1]) (n := 2) (Nat.le_of_ble_eq_true rfl)
  rw [lg_entry_eq]
  generalize (lg_sl ([.ref a0, .int x1]) ++ List.replicate (2 - (lg_sl ([.ref a0, .int x1])).length) Slot.unset).toArray = ls at hl ⊢
  have C0 : gz_C p s m _ meth c b_Mo_size 2 (some .int) R_Mo "size" gz_W _ (dC, dI) vwCl [(cI, .int), (cB, .byte), (cZ, .boolean)] tS := ⟨B.exec, B.bytes, B.returns, hml, findClass_of_methodNamed B.named, (name_of_methodNamed B.named B.method).1, fun w h => atoms_spec (ws := w_Mo_sizeS) B.pre w (List.mem_cons_of_mem _ h), B.notSynchronized, fun q h => Or.inr h, hK, hE⟩
  exact w_Mo_size_0 C0 a0 a0_input a0_output a0_told a0_lengths a0_small a0_row a0_tokenLength a0_tokenValue a0_counts a0_smallCounts a0_step a0_stepMore a0_order a0_listed a0_before a0_isSymbol a0_listSize a0_latest N v0_inputSize v0_outputSize v0_bits v0_fault v0_tokens v0_steps v0_bitAt x x1 hf _ _ _ hP (hD0.self (sz := s.heap.size)) va_S.rf (lv_sub hl [0, 1] rfl)
abbrev rm_Mo_at : Room := { frames := 0, cells := 0, slots := 0, locals := 0 }
abbrev e_Mo_at (dC : Nat → ClassId) (dI : Nat → Nat → Nat) (cI cB cZ : ClassId) (a0 : Nat) (a0_input : Nat) (a0_output : Nat) (a0_told : Nat) (a0_lengths : Nat) (a0_small : Nat) (a0_row : Nat) (a0_tokenLength : Nat) (a0_tokenValue : Nat) (a0_counts : Nat) (a0_smallCounts : Nat) (a0_step : Nat) (a0_stepMore : Nat) (a0_order : Nat) (a0_listed : Nat) (a0_before : Nat) (a0_isSymbol : Nat) (a0_listSize : Nat) (a0_latest : Nat) (N : Nat) (v0_inputSize : Int32) (v0_outputSize : Int32) (v0_bits : Int32) (v0_fault : Int32) (v0_tokens : Int32) (v0_steps : Int32) (v0_bitAt : Int32) (n0_output : Nat) (f0_output : Nat → Int32) (n0_input : Nat) (f0_input : Nat → Int32) (x : Int32) (u : Unit) : va_W := [(a0, .inr (10, [.int v0_inputSize, .ref a0_input, .int v0_outputSize, .ref a0_output, .ref a0_told, .int v0_bits, .int v0_fault, .ref a0_lengths, .ref a0_small, .ref a0_row, .int v0_tokens, .ref a0_tokenLength, .ref a0_tokenValue, .ref a0_counts, .ref a0_smallCounts, .int v0_steps, .ref a0_step, .ref a0_stepMore, .int v0_bitAt, .ref a0_order, .ref a0_listed, .ref a0_before, .ref a0_isSymbol, .ref a0_listSize, .ref a0_latest])), (a0_output, .inl (cI, n0_output, .inl f0_output)), (a0_input, .inl (cI, n0_input, .inl f0_input))]
abbrev q_Mo_at (below : List Frame) (args : Array Value) (s : State) (dC : Nat → ClassId) (dI : Nat → Nat → Nat) (cI cB cZ : ClassId) (A : Nat → Prop) (a0 : Nat) (a0_input : Nat) (a0_output : Nat) (a0_told : Nat) (a0_lengths : Nat) (a0_small : Nat) (a0_row : Nat) (a0_tokenLength : Nat) (a0_tokenValue : Nat) (a0_counts : Nat) (a0_smallCounts : Nat) (a0_step : Nat) (a0_stepMore : Nat) (a0_order : Nat) (a0_listed : Nat) (a0_before : Nat) (a0_isSymbol : Nat) (a0_listSize : Nat) (a0_latest : Nat) (N : Nat) (v0_inputSize : Int32) (v0_outputSize : Int32) (v0_bits : Int32) (v0_fault : Int32) (v0_tokens : Int32) (v0_steps : Int32) (v0_bitAt : Int32) (n0_output : Nat) (f0_output : Nat → Int32) (n0_input : Nat) (f0_input : Nat → Int32) (x : Int32) : State → Prop := MQ below (va_Qi (fun r (_ : Unit) => r = x) (gz_B (dC, dI) vwCl A (e_Mo_at dC dI cI cB cZ a0 a0_input a0_output a0_told a0_lengths a0_small a0_row a0_tokenLength a0_tokenValue a0_counts a0_smallCounts a0_step a0_stepMore a0_order a0_listed a0_before a0_isSymbol a0_listSize a0_latest N v0_inputSize v0_outputSize v0_bits v0_fault v0_tokens v0_steps v0_bitAt n0_output f0_output n0_input f0_input x)) A) args s 0 0 A
def t_Mo_at_0 (p : Program) (l : Launch) (e : Env) (s : State) (m : MethodId) (args : Array Value) (below : List Frame) (meth : Method) (c : Code) (dC : Nat → ClassId) (dI : Nat → Nat → Nat) (cI cB cZ : ClassId) (tS : Nat) (A : Nat → Prop) (a0 : Nat) (a0_input : Nat) (a0_output : Nat) (a0_told : Nat) (a0_lengths : Nat) (a0_small : Nat) (a0_row : Nat) (a0_tokenLength : Nat) (a0_tokenValue : Nat) (a0_counts : Nat) (a0_smallCounts : Nat) (a0_step : Nat) (a0_stepMore : Nat) (a0_order : Nat) (a0_listed : Nat) (a0_before : Nat) (a0_isSymbol : Nat) (a0_listSize : Nat) (a0_latest : Nat) (N : Nat) (v0_inputSize : Int32) (v0_outputSize : Int32) (v0_bits : Int32) (v0_fault : Int32) (v0_tokens : Int32) (v0_steps : Int32) (v0_bitAt : Int32) (n0_output : Nat) (f0_output : Nat → Int32) (n0_input : Nat) (f0_input : Nat → Int32) (x : Int32) (F : Int32 → Int32 → Option (Int32)) : Prop :=
  ∀ (x1 : Int32) (x2 : Int32), F x1 x2 = some x → ∀ (H : Heap) (locs : List Loc) (ls : Array Slot), va_P (dC, dI) vwCl [(a0, .inr (10, [.int v0_inputSize, .ref a0_input, .int v0_outputSize, .ref a0_output, .ref a0_told, .int v0_bits, .int v0_fault, .ref a0_lengths, .ref a0_small, .ref a0_row, .int v0_tokens, .ref a0_tokenLength, .ref a0_tokenValue, .ref a0_counts, .ref a0_smallCounts, .int v0_steps, .ref a0_step, .ref a0_stepMore, .int v0_bitAt, .ref a0_order, .ref a0_listed, .ref a0_before, .ref a0_isSymbol, .ref a0_listSize, .ref a0_latest])), (a0_output, .inl (cI, n0_output, .inl f0_output)), (a0_input, .inl (cI, n0_input, .inl f0_input))] H → va_D A [(a0, .inr (10, [.int v0_inputSize, .ref a0_input, .int v0_outputSize, .ref a0_output, .ref a0_told, .int v0_bits, .int v0_fault, .ref a0_lengths, .ref a0_small, .ref a0_row, .int v0_tokens, .ref a0_tokenLength, .ref a0_tokenValue, .ref a0_counts, .ref a0_smallCounts, .int v0_steps, .ref a0_step, .ref a0_stepMore, .int v0_bitAt, .ref a0_order, .ref a0_listed, .ref a0_before, .ref a0_isSymbol, .ref a0_listSize, .ref a0_latest])), (a0_output, .inl (cI, n0_output, .inl f0_output)), (a0_input, .inl (cI, n0_input, .inl f0_input))] → va_S A s.heap H locs → lv_has ls 3 [(0, .ref a0), (1, .int x1), (2, .int x2)] → W p l e rm_Mo_at s m args below meth c H locs 0 0 (q_Mo_at below args s dC dI cI cB cZ A a0 a0_input a0_output a0_told a0_lengths a0_small a0_row a0_tokenLength a0_tokenValue a0_counts a0_smallCounts a0_step a0_stepMore a0_order a0_listed a0_before a0_isSymbol a0_listSize a0_latest N v0_inputSize v0_outputSize v0_bits v0_fault v0_tokens v0_steps v0_bitAt n0_output f0_output n0_input f0_input x) (F0 m 0 ls [])
def g_Mo_at_0 (v0_inputSize : Int32) (v0_outputSize : Int32) (n0_output : Nat) (f0_output : Nat → Int32) (n0_input : Nat) (f0_input : Nat → Int32) (x1 : Int32) (x2 : Int32) : Option (Int32) := (if x1 = 0 then (if x2 < 0 then some ((-1 : Int32)) else (if v0_inputSize ≤ x2 then some ((-1 : Int32)) else (if x2 < 0 ∨ n0_input ≤ x2.toNatClampNeg then none else some (f0_input x2.toNatClampNeg)))) else (if x1 = (1 : Int32) then (if x2 < 0 then some ((-1 : Int32)) else (if v0_outputSize ≤ x2 then some ((-1 : Int32)) else (if x2 < 0 ∨ n0_output ≤ x2.toNatClampNeg then none else some (f0_output x2.toNatClampNeg)))) else some ((-1 : Int32))))
set_option maxHeartbeats 4000000 in
set_option maxRecDepth 100000 in
theorem w_Mo_at_0 {p : Program} {l : Launch} {e : Env} {s : State} {m : MethodId} {args : Array Value} {below : List Frame} {meth : Method} {c : Code} {dC : Nat → ClassId} {dI : Nat → Nat → Nat} {cI cB cZ : ClassId} {tS : Nat} {A : Nat → Prop} (C0 : gz_C p s m args meth c b_Mo_at 3 (some .int) R_Mo "at" gz_W A (dC, dI) vwCl [(cI, .int), (cB, .byte), (cZ, .boolean)] tS) (a0 : Nat) (a0_input : Nat) (a0_output : Nat) (a0_told : Nat) (a0_lengths : Nat) (a0_small : Nat) (a0_row : Nat) (a0_tokenLength : Nat) (a0_tokenValue : Nat) (a0_counts : Nat) (a0_smallCounts : Nat) (a0_step : Nat) (a0_stepMore : Nat) (a0_order : Nat) (a0_listed : Nat) (a0_before : Nat) (a0_isSymbol : Nat) (a0_listSize : Nat) (a0_latest : Nat) (N : Nat) (v0_inputSize : Int32) (v0_outputSize : Int32) (v0_bits : Int32) (v0_fault : Int32) (v0_tokens : Int32) (v0_steps : Int32) (v0_bitAt : Int32) (n0_output : Nat) (f0_output : Nat → Int32) (n0_input : Nat) (f0_input : Nat → Int32) (x : Int32) : t_Mo_at_0 p l e s m args below meth c dC dI cI cB cZ tS A a0 a0_input a0_output a0_told a0_lengths a0_small a0_row a0_tokenLength a0_tokenValue a0_counts a0_smallCounts a0_step a0_stepMore a0_order a0_listed a0_before a0_isSymbol a0_listSize a0_latest N v0_inputSize v0_outputSize v0_bits v0_fault v0_tokens v0_steps v0_bitAt n0_output f0_output n0_input f0_input x (g_Mo_at_0 v0_inputSize v0_outputSize n0_output f0_output n0_input f0_input) := by
  obtain ⟨hx, hb, hr, hml, hown, hin0, hts, hlocks, hA, hK, hE⟩ := id C0
  intro x1 x2 h H locs ls hP hD hS hl
  rw [g_Mo_at_0] at h
  refine lv_iload_n hx hb d_Mo_at_0 rfl (lv_at hl 1 rfl) ?_
  refine lv_if_ne (tgt := 27) hx hb d_Mo_at_1 (by decide) (fun c1 => ?_) (fun c1 => ?_)
  · have h := gz_f h c1
    refine lv_iload_n hx hb d_Mo_at_27 rfl (lv_at hl 1 rfl) ?_
    refine lv_iconst (v := (1 : Int32)) hx hb d_Mo_at_28 (by decide) ?_
    refine lv_icmp_ne (tgt := 53) hx hb d_Mo_at_29 (by decide) (fun c2 => ?_) (fun c2 => ?_)
    · have h := gz_f h c2
      refine lv_iconst (v := (-1 : Int32)) hx hb d_Mo_at_53 (by decide) ?_
      obtain rfl := Option.some.inj h
      exact W.iret (v := (-1 : Int32)) hx hb hr (fun t ht hW => ⟨⟨(-1 : Int32), (), rfl, rfl, by rw [ht]; exact hP.sub [0, 1, 2] rfl, hD.sub [0, 1, 2] (by decide) rfl⟩, hS.F ht⟩) hS.2.2 d_Mo_at_54
    · have h := gz_t h c2
      refine lv_iload_n hx hb d_Mo_at_32 rfl (lv_at hl 2 rfl) ?_
      refine lv_if_lt (tgt := 53) hx hb d_Mo_at_33 (by decide) (fun c3 => ?_) (fun c3 => ?_)
      · have h := gz_t h c3
        refine lv_iconst (v := (-1 : Int32)) hx hb d_Mo_at_53 (by decide) ?_
        obtain rfl := Option.some.inj h
        exact W.iret (v := (-1 : Int32)) hx hb hr (fun t ht hW => ⟨⟨(-1 : Int32), (), rfl, rfl, by rw [ht]; exact hP.sub [0, 1, 2] rfl, hD.sub [0, 1, 2] (by decide) rfl⟩, hS.F ht⟩) hS.2.2 d_Mo_at_54
      · have h := gz_f h c3
        refine lv_iload_n hx hb d_Mo_at_36 rfl (lv_at hl 2 rfl) ?_
        refine lv_aload_n hx hb d_Mo_at_37 rfl (lv_at hl 0 rfl) ?_
        refine va_get (D := (dC, dI)) (ci := 10) (v := .int v0_outputSize) (C := R_Mo) (T := F_Mo) (N := 25) hx hb hts in_Mo hown hK hP 0 rfl rfl 2 (by decide) (hts _ kw_488) (fun _ h9 => h9) rfl d_Mo_at_38 ?_
        refine lv_icmp_ge (tgt := 53) hx hb d_Mo_at_41 (by decide) (fun c4 => ?_) (fun c4 => ?_)
        · have h := gz_t h c4
          refine lv_iconst (v := (-1 : Int32)) hx hb d_Mo_at_53 (by decide) ?_
          obtain rfl := Option.some.inj h
          exact W.iret (v := (-1 : Int32)) hx hb hr (fun t ht hW => ⟨⟨(-1 : Int32), (), rfl, rfl, by rw [ht]; exact hP.sub [0, 1, 2] rfl, hD.sub [0, 1, 2] (by decide) rfl⟩, hS.F ht⟩) hS.2.2 d_Mo_at_54
        · have h := gz_f h c4
          refine lv_aload_n hx hb d_Mo_at_44 rfl (lv_at hl 0 rfl) ?_
          refine va_get (D := (dC, dI)) (ci := 10) (v := .ref a0_output) (C := R_Mo) (T := F_Mo) (N := 25) hx hb hts in_Mo hown hK hP 0 rfl rfl 3 (by decide) (hts _ kw_467) (fun _ h9 => h9) rfl d_Mo_at_45 ?_
          refine lv_iload_n hx hb d_Mo_at_48 rfl (lv_at hl 2 rfl) ?_
          obtain ⟨hi5, h⟩ := gz_n h
          refine va_iald hx hb hK hP 1 0 rfl rfl hi5 d_Mo_at_49 ?_
          refine lv_goto (tgt := 54) hx hb d_Mo_at_50 (by decide) ?_
          obtain rfl := Option.some.inj h
          exact W.iret (v := f0_output x2.toNatClampNeg) hx hb hr (fun t ht hW => ⟨⟨f0_output x2.toNatClampNeg, (), rfl, rfl, by rw [ht]; exact hP.sub [0, 1, 2] rfl, hD.sub [0, 1, 2] (by decide) rfl⟩, hS.F ht⟩) hS.2.2 d_Mo_at_54
  · have h := gz_t h c1
    refine lv_iload_n hx hb d_Mo_at_4 rfl (lv_at hl 2 rfl) ?_
    refine lv_if_lt (tgt := 25) hx hb d_Mo_at_5 (by decide) (fun c6 => ?_) (fun c6 => ?_)
    · have h := gz_t h c6
      refine lv_iconst (v := (-1 : Int32)) hx hb d_Mo_at_25 (by decide) ?_
      obtain rfl := Option.some.inj h
      exact W.iret (v := (-1 : Int32)) hx hb hr (fun t ht hW => ⟨⟨(-1 : Int32), (), rfl, rfl, by rw [ht]; exact hP.sub [0, 1, 2] rfl, hD.sub [0, 1, 2] (by decide) rfl⟩, hS.F ht⟩) hS.2.2 d_Mo_at_26
    · have h := gz_f h c6
      refine lv_iload_n hx hb d_Mo_at_8 rfl (lv_at hl 2 rfl) ?_
      refine lv_aload_n hx hb d_Mo_at_9 rfl (lv_at hl 0 rfl) ?_
      refine va_get (D := (dC, dI)) (ci := 10) (v := .int v0_inputSize) (C := R_Mo) (T := F_Mo) (N := 25) hx hb hts in_Mo hown hK hP 0 rfl rfl 0 (by decide) (hts _ kw_485) (fun _ h9 => h9) rfl d_Mo_at_10 ?_
      refine lv_icmp_ge (tgt := 25) hx hb d_Mo_at_13 (by decide) (fun c7 => ?_) (fun c7 => ?_)
      · have h := gz_t h c7
        refine lv_iconst (v := (-1 : Int32)) hx hb d_Mo_at_25 (by decide) ?_
        obtain rfl := Option.some.inj h
        exact W.iret (v := (-1 : Int32)) hx hb hr (fun t ht hW => ⟨⟨(-1 : Int32), (), rfl, rfl, by rw [ht]; exact hP.sub [0, 1, 2] rfl, hD.sub [0, 1, 2] (by decide) rfl⟩, hS.F ht⟩) hS.2.2 d_Mo_at_26
      · have h := gz_f h c7
        refine lv_aload_n hx hb d_Mo_at_16 rfl (lv_at hl 0 rfl) ?_
        refine va_get (D := (dC, dI)) (ci := 10) (v := .ref a0_input) (C := R_Mo) (T := F_Mo) (N := 25) hx hb hts in_Mo hown hK hP 0 rfl rfl 1 (by decide) (hts _ kw_466) (fun _ h9 => h9) rfl d_Mo_at_17 ?_
        refine lv_iload_n hx hb d_Mo_at_20 rfl (lv_at hl 2 rfl) ?_
        obtain ⟨hi8, h⟩ := gz_n h
        refine va_iald hx hb hK hP 2 0 rfl rfl hi8 d_Mo_at_21 ?_
        refine lv_goto (tgt := 26) hx hb d_Mo_at_22 (by decide) ?_
        obtain rfl := Option.some.inj h
        exact W.iret (v := f0_input x2.toNatClampNeg) hx hb hr (fun t ht hW => ⟨⟨f0_input x2.toNatClampNeg, (), rfl, rfl, by rw [ht]; exact hP.sub [0, 1, 2] rfl, hD.sub [0, 1, 2] (by decide) rfl⟩, hS.F ht⟩) hS.2.2 d_Mo_at_26
set_option maxHeartbeats 4000000 in
set_option maxRecDepth 100000 in
theorem c_Mo_at (l : Launch) (dC : Nat → ClassId) (dI : Nat → Nat → Nat) (cI cB cZ : ClassId) (tS : Nat) (a0 : Nat) (a0_input : Nat) (a0_output : Nat) (a0_told : Nat) (a0_lengths : Nat) (a0_small : Nat) (a0_row : Nat) (a0_tokenLength : Nat) (a0_tokenValue : Nat) (a0_counts : Nat) (a0_smallCounts : Nat) (a0_step : Nat) (a0_stepMore : Nat) (a0_order : Nat) (a0_listed : Nat) (a0_before : Nat) (a0_isSymbol : Nat) (a0_listSize : Nat) (a0_latest : Nat) (sz : Nat) (N : Nat) (v0_inputSize : Int32) (v0_outputSize : Int32) (v0_bits : Int32) (v0_fault : Int32) (v0_tokens : Int32) (v0_steps : Int32) (v0_bitAt : Int32) (n0_output : Nat) (f0_output : Nat → Int32) (n0_input : Nat) (f0_input : Nat → Int32) (x1 : Int32) (x2 : Int32) (x : Int32) (hf : (g_Mo_at_0 v0_inputSize v0_outputSize n0_output f0_output n0_input f0_input x1 x2) = some x) : Met l y_Mo_at w_Mo_atS rm_Mo_at (gz_Pc [.ref a0, .int x1, .int x2] (dC, dI) vwCl [(cI, .int), (cB, .byte), (cZ, .boolean)] tS [(a0, .inr (10, [.int v0_inputSize, .ref a0_input, .int v0_outputSize, .ref a0_output, .ref a0_told, .int v0_bits, .int v0_fault, .ref a0_lengths, .ref a0_small, .ref a0_row, .int v0_tokens, .ref a0_tokenLength, .ref a0_tokenValue, .ref a0_counts, .ref a0_smallCounts, .int v0_steps, .ref a0_step, .ref a0_stepMore, .int v0_bitAt, .ref a0_order, .ref a0_listed, .ref a0_before, .ref a0_isSymbol, .ref a0_listSize, .ref a0_latest])), (a0_output, .inl (cI, n0_output, .inl f0_output)), (a0_input, .inl (cI, n0_input, .inl f0_input))] sz) (va_Qi (fun r (_ : Unit) => r = x) (gz_B (dC, dI) vwCl (va_A [(a0, .inr (10, [.int v0_inputSize, .ref a0_input, .int v0_outputSize, .ref a0_output, .ref a0_told, .int v0_bits, .int v0_fault, .ref a0_lengths, .ref a0_small, .ref a0_row, .int v0_tokens, .ref a0_tokenLength, .ref a0_tokenValue, .ref a0_counts, .ref a0_smallCounts, .int v0_steps, .ref a0_step, .ref a0_stepMore, .int v0_bitAt, .ref a0_order, .ref a0_listed, .ref a0_before, .ref a0_isSymbol, .ref a0_listSize, .ref a0_latest])), (a0_output, .inl (cI, n0_output, .inl f0_output)), (a0_input, .inl (cI, n0_input, .inl f0_input))] sz) (e_Mo_at dC dI cI cB cZ a0 a0_input a0_output a0_told a0_lengths a0_small a0_row a0_tokenLength a0_tokenValue a0_counts a0_smallCounts a0_step a0_stepMore a0_order a0_listed a0_before a0_isSymbol a0_listSize a0_latest N v0_inputSize v0_outputSize v0_bits v0_fault v0_tokens v0_steps v0_bitAt n0_output f0_output n0_input f0_input x)) (va_A [(a0, .inr (10, [.int v0_inputSize, .ref a0_input, .int v0_outputSize, .ref a0_output, .ref a0_told, .int v0_bits, .int v0_fault, .ref a0_lengths, .ref a0_small, .ref a0_row, .int v0_tokens, .ref a0_tokenLength, .ref a0_tokenValue, .ref a0_counts, .ref a0_smallCounts, .int v0_steps, .ref a0_step, .ref a0_stepMore, .int v0_bitAt, .ref a0_order, .ref a0_listed, .ref a0_before, .ref a0_isSymbol, .ref a0_listSize, .ref a0_latest])), (a0_output, .inl (cI, n0_output, .inl f0_output)), (a0_input, .inl (cI, n0_input, .inl f0_input))] sz)) 0 0 (va_A [(a0, .inr (10, [.int v0_inputSize, .ref a0_input, .int v0_outputSize, .ref a0_output, .ref a0_told, .int v0_bits, .int v0_fault, .ref a0_lengths, .ref a0_small, .ref a0_row, .int v0_tokens, .ref a0_tokenLength, .ref a0_tokenValue, .ref a0_counts, .ref a0_smallCounts, .int v0_steps, .ref a0_step, .ref a0_stepMore, .int v0_bitAt, .ref a0_order, .ref a0_listed, .ref a0_before, .ref a0_isSymbol, .ref a0_listSize, .ref a0_latest])), (a0_output, .inl (cI, n0_output, .inl f0_output)), (a0_input, .inl (cI, n0_input, .inl f0_input))] sz) := by
  refine Met.ofW (cc := b_Mo_at) (maxL := 3) (ret := (some .int)) (by decide) rfl ?_
  intro p e s m args below meth c s₁ B hml hv
  obtain ⟨rfl, hsz, hP, hK, hD0, hE⟩ := hv
  subst hsz
  have hl := lv_entry ([.ref a0, .int x1, .int x2]) (n := 3) (Nat.le_of_ble_eq_true rfl)
  rw [lg_entry_eq]
  generalize (lg_sl ([.ref a0, .int x1, .int x2]) ++ List.replicate (3 - (lg_sl ([.ref a0, .int x1, .int x2])).length) Slot.unset).toArray = ls at hl ⊢
  have C0 : gz_C p s m _ meth c b_Mo_at 3 (some .int) R_Mo "at" gz_W _ (dC, dI) vwCl [(cI, .int), (cB, .byte), (cZ, .boolean)] tS := ⟨B.exec, B.bytes, B.returns, hml, findClass_of_methodNamed B.named, (name_of_methodNamed B.named B.method).1, fun w h => atoms_spec (ws := w_Mo_atS) B.pre w (List.mem_cons_of_mem _ h), B.notSynchronized, fun q h => Or.inr h, hK, hE⟩
  exact w_Mo_at_0 C0 a0 a0_input a0_output a0_told a0_lengths a0_small a0_row a0_tokenLength a0_tokenValue a0_counts a0_smallCounts a0_step a0_stepMore a0_order a0_listed a0_before a0_isSymbol a0_listSize a0_latest N v0_inputSize v0_outputSize v0_bits v0_fault v0_tokens v0_steps v0_bitAt n0_output f0_output n0_input f0_input x x1 x2 hf _ _ _ hP (hD0.self (sz := s.heap.size)) va_S.rf (lv_sub hl [0, 1, 2] rfl)
abbrev rm_Mo_blame : Room := { frames := 0, cells := 0, slots := 0, locals := 0 }
abbrev e_Mo_blame (dC : Nat → ClassId) (dI : Nat → Nat → Nat) (cI cB cZ : ClassId) (a0 : Nat) (a0_input : Nat) (a0_output : Nat) (a0_told : Nat) (a0_lengths : Nat) (a0_small : Nat) (a0_row : Nat) (a0_tokenLength : Nat) (a0_tokenValue : Nat) (a0_counts : Nat) (a0_smallCounts : Nat) (a0_step : Nat) (a0_stepMore : Nat) (a0_order : Nat) (a0_listed : Nat) (a0_before : Nat) (a0_isSymbol : Nat) (a0_listSize : Nat) (a0_latest : Nat) (N : Nat) (v0_inputSize : Int32) (v0_outputSize : Int32) (v0_bits : Int32) (v0_tokens : Int32) (v0_steps : Int32) (v0_bitAt : Int32) (x : Int32) (u : Unit) : va_W := [(a0, .inr (10, [.int v0_inputSize, .ref a0_input, .int v0_outputSize, .ref a0_output, .ref a0_told, .int v0_bits, .int x, .ref a0_lengths, .ref a0_small, .ref a0_row, .int v0_tokens, .ref a0_tokenLength, .ref a0_tokenValue, .ref a0_counts, .ref a0_smallCounts, .int v0_steps, .ref a0_step, .ref a0_stepMore, .int v0_bitAt, .ref a0_order, .ref a0_listed, .ref a0_before, .ref a0_isSymbol, .ref a0_listSize, .ref a0_latest]))]
abbrev q_Mo_blame (below : List Frame) (args : Array Value) (s : State) (dC : Nat → ClassId) (dI : Nat → Nat → Nat) (cI cB cZ : ClassId) (A : Nat → Prop) (a0 : Nat) (a0_input : Nat) (a0_output : Nat) (a0_told : Nat) (a0_lengths : Nat) (a0_small : Nat) (a0_row : Nat) (a0_tokenLength : Nat) (a0_tokenValue : Nat) (a0_counts : Nat) (a0_smallCounts : Nat) (a0_step : Nat) (a0_stepMore : Nat) (a0_order : Nat) (a0_listed : Nat) (a0_before : Nat) (a0_isSymbol : Nat) (a0_listSize : Nat) (a0_latest : Nat) (N : Nat) (v0_inputSize : Int32) (v0_outputSize : Int32) (v0_bits : Int32) (v0_tokens : Int32) (v0_steps : Int32) (v0_bitAt : Int32) (x : Int32) : State → Prop := MQ below (va_Qv (fun (_ : Unit) => True) (gz_B (dC, dI) vwCl A (e_Mo_blame dC dI cI cB cZ a0 a0_input a0_output a0_told a0_lengths a0_small a0_row a0_tokenLength a0_tokenValue a0_counts a0_smallCounts a0_step a0_stepMore a0_order a0_listed a0_before a0_isSymbol a0_listSize a0_latest N v0_inputSize v0_outputSize v0_bits v0_tokens v0_steps v0_bitAt x)) A) args s 0 0 A
def t_Mo_blame_J1 (p : Program) (l : Launch) (e : Env) (s : State) (m : MethodId) (args : Array Value) (below : List Frame) (meth : Method) (c : Code) (dC : Nat → ClassId) (dI : Nat → Nat → Nat) (cI cB cZ : ClassId) (tS : Nat) (A : Nat → Prop) (a0 : Nat) (a0_input : Nat) (a0_output : Nat) (a0_told : Nat) (a0_lengths : Nat) (a0_small : Nat) (a0_row : Nat) (a0_tokenLength : Nat) (a0_tokenValue : Nat) (a0_counts : Nat) (a0_smallCounts : Nat) (a0_step : Nat) (a0_stepMore : Nat) (a0_order : Nat) (a0_listed : Nat) (a0_before : Nat) (a0_isSymbol : Nat) (a0_listSize : Nat) (a0_latest : Nat) (N : Nat) (v0_inputSize : Int32) (v0_outputSize : Int32) (v0_bits : Int32) (v0_tokens : Int32) (v0_steps : Int32) (v0_bitAt : Int32) (x : Int32) (F : Int32 → Int32 → Option (Int32)) : Prop :=
  ∀ (y0 : Int32) (v0_fault : Int32), F y0 v0_fault = some x → ∀ (H : Heap) (locs : List Loc) (ls : Array Slot), va_P (dC, dI) vwCl [(a0, .inr (10, [.int v0_inputSize, .ref a0_input, .int v0_outputSize, .ref a0_output, .ref a0_told, .int v0_bits, .int v0_fault, .ref a0_lengths, .ref a0_small, .ref a0_row, .int v0_tokens, .ref a0_tokenLength, .ref a0_tokenValue, .ref a0_counts, .ref a0_smallCounts, .int v0_steps, .ref a0_step, .ref a0_stepMore, .int v0_bitAt, .ref a0_order, .ref a0_listed, .ref a0_before, .ref a0_isSymbol, .ref a0_listSize, .ref a0_latest]))] H → va_D A [(a0, .inr (10, [.int v0_inputSize, .ref a0_input, .int v0_outputSize, .ref a0_output, .ref a0_told, .int v0_bits, .int v0_fault, .ref a0_lengths, .ref a0_small, .ref a0_row, .int v0_tokens, .ref a0_tokenLength, .ref a0_tokenValue, .ref a0_counts, .ref a0_smallCounts, .int v0_steps, .ref a0_step, .ref a0_stepMore, .int v0_bitAt, .ref a0_order, .ref a0_listed, .ref a0_before, .ref a0_isSymbol, .ref a0_listSize, .ref a0_latest]))] → va_S A s.heap H locs → lv_has ls 2 [] → W p l e rm_Mo_blame s m args below meth c H locs 0 0 (q_Mo_blame below args s dC dI cI cB cZ A a0 a0_input a0_output a0_told a0_lengths a0_small a0_row a0_tokenLength a0_tokenValue a0_counts a0_smallCounts a0_step a0_stepMore a0_order a0_listed a0_before a0_isSymbol a0_listSize a0_latest N v0_inputSize v0_outputSize v0_bits v0_tokens v0_steps v0_bitAt x) (F0 m 16 ls [.int y0, .ref a0])
def t_Mo_blame_0 (p : Program) (l : Launch) (e : Env) (s : State) (m : MethodId) (args : Array Value) (below : List Frame) (meth : Method) (c : Code) (dC : Nat → ClassId) (dI : Nat → Nat → Nat) (cI cB cZ : ClassId) (tS : Nat) (A : Nat → Prop) (a0 : Nat) (a0_input : Nat) (a0_output : Nat) (a0_told : Nat) (a0_lengths : Nat) (a0_small : Nat) (a0_row : Nat) (a0_tokenLength : Nat) (a0_tokenValue : Nat) (a0_counts : Nat) (a0_smallCounts : Nat) (a0_step : Nat) (a0_stepMore : Nat) (a0_order : Nat) (a0_listed : Nat) (a0_before : Nat) (a0_isSymbol : Nat) (a0_listSize : Nat) (a0_latest : Nat) (N : Nat) (v0_inputSize : Int32) (v0_outputSize : Int32) (v0_bits : Int32) (v0_tokens : Int32) (v0_steps : Int32) (v0_bitAt : Int32) (x : Int32) (F : Int32 → Int32 → Option (Int32)) : Prop :=
  ∀ (x1 : Int32) (v0_fault : Int32), F x1 v0_fault = some x → ∀ (H : Heap) (locs : List Loc) (ls : Array Slot), va_P (dC, dI) vwCl [(a0, .inr (10, [.int v0_inputSize, .ref a0_input, .int v0_outputSize, .ref a0_output, .ref a0_told, .int v0_bits, .int v0_fault, .ref a0_lengths, .ref a0_small, .ref a0_row, .int v0_tokens, .ref a0_tokenLength, .ref a0_tokenValue, .ref a0_counts, .ref a0_smallCounts, .int v0_steps, .ref a0_step, .ref a0_stepMore, .int v0_bitAt, .ref a0_order, .ref a0_listed, .ref a0_before, .ref a0_isSymbol, .ref a0_listSize, .ref a0_latest]))] H → va_D A [(a0, .inr (10, [.int v0_inputSize, .ref a0_input, .int v0_outputSize, .ref a0_output, .ref a0_told, .int v0_bits, .int v0_fault, .ref a0_lengths, .ref a0_small, .ref a0_row, .int v0_tokens, .ref a0_tokenLength, .ref a0_tokenValue, .ref a0_counts, .ref a0_smallCounts, .int v0_steps, .ref a0_step, .ref a0_stepMore, .int v0_bitAt, .ref a0_order, .ref a0_listed, .ref a0_before, .ref a0_isSymbol, .ref a0_listSize, .ref a0_latest]))] → va_S A s.heap H locs → lv_has ls 2 [(0, .ref a0), (1, .int x1)] → W p l e rm_Mo_blame s m args below meth c H locs 0 0 (q_Mo_blame below args s dC dI cI cB cZ A a0 a0_input a0_output a0_told a0_lengths a0_small a0_row a0_tokenLength a0_tokenValue a0_counts a0_smallCounts a0_step a0_stepMore a0_order a0_listed a0_before a0_isSymbol a0_listSize a0_latest N v0_inputSize v0_outputSize v0_bits v0_tokens v0_steps v0_bitAt x) (F0 m 0 ls [])
def g_Mo_blame_J1 (y0 : Int32) (v0_fault : Int32) : Option (Int32) := some (y0)
set_option maxHeartbeats 4000000 in
set_option maxRecDepth 100000 in
theorem w_Mo_blame_J1 {p : Program} {l : Launch} {e : Env} {s : State} {m : MethodId} {args : Array Value} {below : List Frame} {meth : Method} {c : Code} {dC : Nat → ClassId} {dI : Nat → Nat → Nat} {cI cB cZ : ClassId} {tS : Nat} {A : Nat → Prop} (C0 : gz_C p s m args meth c b_Mo_blame 2 none R_Mo "blame" gz_W A (dC, dI) vwCl [(cI, .int), (cB, .byte), (cZ, .boolean)] tS) (a0 : Nat) (a0_input : Nat) (a0_output : Nat) (a0_told : Nat) (a0_lengths : Nat) (a0_small : Nat) (a0_row : Nat) (a0_tokenLength : Nat) (a0_tokenValue : Nat) (a0_counts : Nat) (a0_smallCounts : Nat) (a0_step : Nat) (a0_stepMore : Nat) (a0_order : Nat) (a0_listed : Nat) (a0_before : Nat) (a0_isSymbol : Nat) (a0_listSize : Nat) (a0_latest : Nat) (N : Nat) (v0_inputSize : Int32) (v0_outputSize : Int32) (v0_bits : Int32) (v0_tokens : Int32) (v0_steps : Int32) (v0_bitAt : Int32) (x : Int32) : t_Mo_blame_J1 p l e s m args below meth c dC dI cI cB cZ tS A a0 a0_input a0_output a0_told a0_lengths a0_small a0_row a0_tokenLength a0_tokenValue a0_counts a0_smallCounts a0_step a0_stepMore a0_order a0_listed a0_before a0_isSymbol a0_listSize a0_latest N v0_inputSize v0_outputSize v0_bits v0_tokens v0_steps v0_bitAt x (g_Mo_blame_J1) := by
  obtain ⟨hx, hb, hr, hml, hown, hin0, hts, hlocks, hA, hK, hE⟩ := id C0
  intro y0 v0_fault h H locs ls hP hD hS hl
  rw [g_Mo_blame_J1] at h
  refine va_put (D := (dC, dI)) (ci := 10) (v := .int y0) (ty := .int) (C := R_Mo) (T := F_Mo) (N := 25) hx hb hts in_Mo t_Mo t_Mo_ok n_Mo hown hK hP hD hS 0 rfl rfl 6 (by decide) (hts _ kw_489) (fun _ h9 => h9) rfl (by decide +kernel) rfl rfl (Nat.le_of_ble_eq_true rfl) d_Mo_blame_16 (fun H locs hP hD hS => ?_)
  have hP : va_P (dC, dI) vwCl [(a0, .inr (10, [.int v0_inputSize, .ref a0_input, .int v0_outputSize, .ref a0_output, .ref a0_told, .int v0_bits, .int y0, .ref a0_lengths, .ref a0_small, .ref a0_row, .int v0_tokens, .ref a0_tokenLength, .ref a0_tokenValue, .ref a0_counts, .ref a0_smallCounts, .int v0_steps, .ref a0_step, .ref a0_stepMore, .int v0_bitAt, .ref a0_order, .ref a0_listed, .ref a0_before, .ref a0_isSymbol, .ref a0_listSize, .ref a0_latest]))] H := hP
  have hD : va_D A [(a0, .inr (10, [.int v0_inputSize, .ref a0_input, .int v0_outputSize, .ref a0_output, .ref a0_told, .int v0_bits, .int y0, .ref a0_lengths, .ref a0_small, .ref a0_row, .int v0_tokens, .ref a0_tokenLength, .ref a0_tokenValue, .ref a0_counts, .ref a0_smallCounts, .int v0_steps, .ref a0_step, .ref a0_stepMore, .int v0_bitAt, .ref a0_order, .ref a0_listed, .ref a0_before, .ref a0_isSymbol, .ref a0_listSize, .ref a0_latest]))] := hD
  obtain rfl := Option.some.inj h
  exact W.vret hx hb hr (fun t ht hW => ⟨⟨(), rfl, trivial, by rw [ht]; exact hP.sub [0] rfl, hD.sub [0] (by decide) rfl⟩, hS.F ht⟩) hS.2.2 d_Mo_blame_19
def g_Mo_blame_0 (x1 : Int32) (v0_fault : Int32) : Option (Int32) := (if v0_fault = 0 then (g_Mo_blame_J1 x1 v0_fault) else (g_Mo_blame_J1 v0_fault v0_fault))
set_option maxHeartbeats 4000000 in
set_option maxRecDepth 100000 in
theorem w_Mo_blame_0 {p : Program} {l : Launch} {e : Env} {s : State} {m : MethodId} {args : Array Value} {below : List Frame} {meth : Method} {c : Code} {dC : Nat → ClassId} {dI : Nat → Nat → Nat} {cI cB cZ : ClassId} {tS : Nat} {A : Nat → Prop} (C0 : gz_C p s m args meth c b_Mo_blame 2 none R_Mo "blame" gz_W A (dC, dI) vwCl [(cI, .int), (cB, .byte), (cZ, .boolean)] tS) (a0 : Nat) (a0_input : Nat) (a0_output : Nat) (a0_told : Nat) (a0_lengths : Nat) (a0_small : Nat) (a0_row : Nat) (a0_tokenLength : Nat) (a0_tokenValue : Nat) (a0_counts : Nat) (a0_smallCounts : Nat) (a0_step : Nat) (a0_stepMore : Nat) (a0_order : Nat) (a0_listed : Nat) (a0_before : Nat) (a0_isSymbol : Nat) (a0_listSize : Nat) (a0_latest : Nat) (N : Nat) (v0_inputSize : Int32) (v0_outputSize : Int32) (v0_bits : Int32) (v0_tokens : Int32) (v0_steps : Int32) (v0_bitAt : Int32) (x : Int32) : t_Mo_blame_0 p l e s m args below meth c dC dI cI cB cZ tS A a0 a0_input a0_output a0_told a0_lengths a0_small a0_row a0_tokenLength a0_tokenValue a0_counts a0_smallCounts a0_step a0_stepMore a0_order a0_listed a0_before a0_isSymbol a0_listSize a0_latest N v0_inputSize v0_outputSize v0_bits v0_tokens v0_steps v0_bitAt x (g_Mo_blame_0) := by
  obtain ⟨hx, hb, hr, hml, hown, hin0, hts, hlocks, hA, hK, hE⟩ := id C0
  intro x1 v0_fault h H locs ls hP hD hS hl
  rw [g_Mo_blame_0] at h
  refine lv_aload_n hx hb d_Mo_blame_0 rfl (lv_at hl 0 rfl) ?_
  refine lv_aload_n hx hb d_Mo_blame_1 rfl (lv_at hl 0 rfl) ?_
  refine va_get (D := (dC, dI)) (ci := 10) (v := .int v0_fault) (C := R_Mo) (T := F_Mo) (N := 25) hx hb hts in_Mo hown hK hP 0 rfl rfl 6 (by decide) (hts _ kw_489) (fun _ h9 => h9) rfl d_Mo_blame_2 ?_
  refine lv_if_ne (tgt := 12) hx hb d_Mo_blame_5 (by decide) (fun c1 => ?_) (fun c1 => ?_)
  · have h := gz_f h c1
    refine lv_aload_n hx hb d_Mo_blame_12 rfl (lv_at hl 0 rfl) ?_
    refine va_get (D := (dC, dI)) (ci := 10) (v := .int v0_fault) (C := R_Mo) (T := F_Mo) (N := 25) hx hb hts in_Mo hown hK hP 0 rfl rfl 6 (by decide) (hts _ kw_489) (fun _ h9 => h9) rfl d_Mo_blame_13 ?_
    exact (w_Mo_blame_J1 C0 a0 a0_input a0_output a0_told a0_lengths a0_small a0_row a0_tokenLength a0_tokenValue a0_counts a0_smallCounts a0_step a0_stepMore a0_order a0_listed a0_before a0_isSymbol a0_listSize a0_latest N v0_inputSize v0_outputSize v0_bits v0_tokens v0_steps v0_bitAt x) v0_fault v0_fault h _ _ _ (hP.sub [0] rfl) (hD.sub [0] (by decide) rfl) hS (lv_sub hl [] rfl)
  · have h := gz_t h c1
    refine lv_iload_n hx hb d_Mo_blame_8 rfl (lv_at hl 1 rfl) ?_
    refine lv_goto (tgt := 16) hx hb d_Mo_blame_9 (by decide) ?_
    exact (w_Mo_blame_J1 C0 a0 a0_input a0_output a0_told a0_lengths a0_small a0_row a0_tokenLength a0_tokenValue a0_counts a0_smallCounts a0_step a0_stepMore a0_order a0_listed a0_before a0_isSymbol a0_listSize a0_latest N v0_inputSize v0_outputSize v0_bits v0_tokens v0_steps v0_bitAt x) x1 v0_fault h _ _ _ (hP.sub [0] rfl) (hD.sub [0] (by decide) rfl) hS (lv_sub hl [] rfl)
set_option maxHeartbeats 4000000 in
set_option maxRecDepth 100000 in
theorem c_Mo_blame (l : Launch) (dC : Nat → ClassId) (dI : Nat → Nat → Nat) (cI cB cZ : ClassId) (tS : Nat) (a0 : Nat) (a0_input : Nat) (a0_output : Nat) (a0_told : Nat) (a0_lengths : Nat) (a0_small : Nat) (a0_row : Nat) (a0_tokenLength : Nat) (a0_tokenValue : Nat) (a0_counts : Nat) (a0_smallCounts : Nat) (a0_step : Nat) (a0_stepMore : Nat) (a0_order : Nat) (a0_listed : Nat) (a0_before : Nat) (a0_isSymbol : Nat) (a0_listSize : Nat) (a0_latest : Nat) (sz : Nat) (N : Nat) (v0_inputSize : Int32) (v0_outputSize : Int32) (v0_bits : Int32) (v0_tokens : Int32) (v0_steps : Int32) (v0_bitAt : Int32) (x1 : Int32) (v0_fault : Int32) (x : Int32) (hf : (g_Mo_blame_0 x1 v0_fault) = some x) : Met l y_Mo_blame w_Mo_blameS rm_Mo_blame (gz_Pc [.ref a0, .int x1] (dC, dI) vwCl [(cI, .int), (cB, .byte), (cZ, .boolean)] tS [(a0, .inr (10, [.int v0_inputSize, .ref a0_input, .int v0_outputSize, .ref a0_output, .ref a0_told, .int v0_bits, .int v0_fault, .ref a0_lengths, .ref a0_small, .ref a0_row, .int v0_tokens, .ref a0_tokenLength, .ref a0_tokenValue, .ref a0_counts, .ref a0_smallCounts, .int v0_steps, .ref a0_step, .ref a0_stepMore, .int v0_bitAt, .ref a0_order, .ref a0_listed, .ref a0_before, .ref a0_isSymbol, .ref a0_listSize, .ref a0_latest]))] sz) (va_Qv (fun (_ : Unit) => True) (gz_B (dC, dI) vwCl (va_A [(a0, .inr (10, [.int v0_inputSize, .ref a0_input, .int v0_outputSize, .ref a0_output, .ref a0_told, .int v0_bits, .int v0_fault, .ref a0_lengths, .ref a0_small, .ref a0_row, .int v0_tokens, .ref a0_tokenLength, .ref a0_tokenValue, .ref a0_counts, .ref a0_smallCounts, .int v0_steps, .ref a0_step, .ref a0_stepMore, .int v0_bitAt, .ref a0_order, .ref a0_listed, .ref a0_before, .ref a0_isSymbol, .ref a0_listSize, .ref a0_latest]))] sz) (e_Mo_blame dC dI cI cB cZ a0 a0_input a0_output a0_told a0_lengths a0_small a0_row a0_tokenLength a0_tokenValue a0_counts a0_smallCounts a0_step a0_stepMore a0_order a0_listed a0_before a0_isSymbol a0_listSize a0_latest N v0_inputSize v0_outputSize v0_bits v0_tokens v0_steps v0_bitAt x)) (va_A [(a0, .inr (10, [.int v0_inputSize, .ref a0_input, .int v0_outputSize, .ref a0_output, .ref a0_told, .int v0_bits, .int v0_fault, .ref a0_lengths, .ref a0_small, .ref a0_row, .int v0_tokens, .ref a0_tokenLength, .ref a0_tokenValue, .ref a0_counts, .ref a0_smallCounts, .int v0_steps, .ref a0_step, .ref a0_stepMore, .int v0_bitAt, .ref a0_order, .ref a0_listed, .ref a0_before, .ref a0_isSymbol, .ref a0_listSize, .ref a0_latest]))] sz)) 0 0 (va_A [(a0, .inr (10, [.int v0_inputSize, .ref a0_input, .int v0_outputSize, .ref a0_output, .ref a0_told, .int v0_bits, .int v0_fault, .ref a0_lengths, .ref a0_small, .ref a0_row, .int v0_tokens, .ref a0_tokenLength, .ref a0_tokenValue, .ref a0_counts, .ref a0_smallCounts, .int v0_steps, .ref a0_step, .ref a0_stepMore, .int v0_bitAt, .ref a0_order, .ref a0_listed, .ref a0_before, .ref a0_isSymbol, .ref a0_listSize, .ref a0_latest]))] sz) := by
  refine Met.ofW (cc := b_Mo_blame) (maxL := 2) (ret := none) (by decide) rfl ?_
  intro p e s m args below meth c s₁ B hml hv
  obtain ⟨rfl, hsz, hP, hK, hD0, hE⟩ := hv
  subst hsz
  have hl := lv_entry ([.ref a0, .int x1]) (n := 2) (Nat.le_of_ble_eq_true rfl)
  rw [lg_entry_eq]
  generalize (lg_sl ([.ref a0, .int x1]) ++ List.replicate (2 - (lg_sl ([.ref a0, .int x1])).length) Slot.unset).toArray = ls at hl ⊢
  have C0 : gz_C p s m _ meth c b_Mo_blame 2 none R_Mo "blame" gz_W _ (dC, dI) vwCl [(cI, .int), (cB, .byte), (cZ, .boolean)] tS := ⟨B.exec, B.bytes, B.returns, hml, findClass_of_methodNamed B.named, (name_of_methodNamed B.named B.method).1, fun w h => atoms_spec (ws := w_Mo_blameS) B.pre w (List.mem_cons_of_mem _ h), B.notSynchronized, fun q h => Or.inr h, hK, hE⟩
  exact w_Mo_blame_0 C0 a0 a0_input a0_output a0_told a0_lengths a0_small a0_row a0_tokenLength a0_tokenValue a0_counts a0_smallCounts a0_step a0_stepMore a0_order a0_listed a0_before a0_isSymbol a0_listSize a0_latest N v0_inputSize v0_outputSize v0_bits v0_tokens v0_steps v0_bitAt x x1 v0_fault hf _ _ _ hP (hD0.self (sz := s.heap.size)) va_S.rf (lv_sub hl [0, 1] rfl)
abbrev rm_Mo_bit : Room := { frames := 1, cells := 0, slots := 0, locals := 21 }
abbrev e_Mo_bit (dC : Nat → ClassId) (dI : Nat → Nat → Nat) (cI cB cZ : ClassId) (a0 : Nat) (a0_input : Nat) (a0_output : Nat) (a0_told : Nat) (a0_lengths : Nat) (a0_small : Nat) (a0_row : Nat) (a0_tokenLength : Nat) (a0_tokenValue : Nat) (a0_counts : Nat) (a0_smallCounts : Nat) (a0_step : Nat) (a0_stepMore : Nat) (a0_order : Nat) (a0_listed : Nat) (a0_before : Nat) (a0_isSymbol : Nat) (a0_listSize : Nat) (a0_latest : Nat) (N : Nat) (v0_inputSize : Int32) (v0_outputSize : Int32) (v0_tokens : Int32) (v0_steps : Int32) (v0_bitAt : Int32) (n0_input : Nat) (f0_input : Nat → Int32) (x : Int32 × Int32 × Int32) (u : Unit) : va_W := [(a0, .inr (10, [.int v0_inputSize, .ref a0_input, .int v0_outputSize, .ref a0_output, .ref a0_told, .int x.2.2, .int x.2.1, .ref a0_lengths, .ref a0_small, .ref a0_row, .int v0_tokens, .ref a0_tokenLength, .ref a0_tokenValue, .ref a0_counts, .ref a0_smallCounts, .int v0_steps, .ref a0_step, .ref a0_stepMore, .int v0_bitAt, .ref a0_order, .ref a0_listed, .ref a0_before, .ref a0_isSymbol, .ref a0_listSize, .ref a0_latest])), (a0_input, .inl (cI, n0_input, .inl f0_input))]
abbrev q_Mo_bit (below : List Frame) (args : Array Value) (s : State) (dC : Nat → ClassId) (dI : Nat → Nat → Nat) (cI cB cZ : ClassId) (A : Nat → Prop) (a0 : Nat) (a0_input : Nat) (a0_output : Nat) (a0_told : Nat) (a0_lengths : Nat) (a0_small : Nat) (a0_row : Nat) (a0_tokenLength : Nat) (a0_tokenValue : Nat) (a0_counts : Nat) (a0_smallCounts : Nat) (a0_step : Nat) (a0_stepMore : Nat) (a0_order : Nat) (a0_listed : Nat) (a0_before : Nat) (a0_isSymbol : Nat) (a0_listSize : Nat) (a0_latest : Nat) (N : Nat) (v0_inputSize : Int32) (v0_outputSize : Int32) (v0_tokens : Int32) (v0_steps : Int32) (v0_bitAt : Int32) (n0_input : Nat) (f0_input : Nat → Int32) (x : Int32 × Int32 × Int32) : State → Prop := MQ below (va_Qi (fun r (_ : Unit) => r = x.1) (gz_B (dC, dI) vwCl A (e_Mo_bit dC dI cI cB cZ a0 a0_input a0_output a0_told a0_lengths a0_small a0_row a0_tokenLength a0_tokenValue a0_counts a0_smallCounts a0_step a0_stepMore a0_order a0_listed a0_before a0_isSymbol a0_listSize a0_latest N v0_inputSize v0_outputSize v0_tokens v0_steps v0_bitAt n0_input f0_input x)) A) args s 0 0 A
def t_Mo_bit_J1 (p : Program) (l : Launch) (e : Env) (s : State) (m : MethodId) (args : Array Value) (below : List Frame) (meth : Method) (c : Code) (dC : Nat → ClassId) (dI : Nat → Nat → Nat) (cI cB cZ : ClassId) (tS : Nat) (A : Nat → Prop) (a0 : Nat) (a0_input : Nat) (a0_output : Nat) (a0_told : Nat) (a0_lengths : Nat) (a0_small : Nat) (a0_row : Nat) (a0_tokenLength : Nat) (a0_tokenValue : Nat) (a0_counts : Nat) (a0_smallCounts : Nat) (a0_step : Nat) (a0_stepMore : Nat) (a0_order : Nat) (a0_listed : Nat) (a0_before : Nat) (a0_isSymbol : Nat) (a0_listSize : Nat) (a0_latest : Nat) (N : Nat) (v0_inputSize : Int32) (v0_outputSize : Int32) (v0_tokens : Int32) (v0_steps : Int32) (v0_bitAt : Int32) (n0_input : Nat) (f0_input : Nat → Int32) (x : Int32 × Int32 × Int32) (F : Int32 → Int32 → Option (Int32 × Int32 × Int32)) : Prop :=
  ∀ (v0_fault : Int32) (v0_bits : Int32), F v0_fault v0_bits = some x → ∀ (H : Heap) (locs : List Loc) (ls : Array Slot), va_P (dC, dI) vwCl [(a0, .inr (10, [.int v0_inputSize, .ref a0_input, .int v0_outputSize, .ref a0_output, .ref a0_told, .int v0_bits, .int v0_fault, .ref a0_lengths, .ref a0_small, .ref a0_row, .int v0_tokens, .ref a0_tokenLength, .ref a0_tokenValue, .ref a0_counts, .ref a0_smallCounts, .int v0_steps, .ref a0_step, .ref a0_stepMore, .int v0_bitAt, .ref a0_order, .ref a0_listed, .ref a0_before, .ref a0_isSymbol, .ref a0_listSize, .ref a0_latest])), (a0_input, .inl (cI, n0_input, .inl f0_input))] H → va_D A [(a0, .inr (10, [.int v0_inputSize, .ref a0_input, .int v0_outputSize, .ref a0_output, .ref a0_told, .int v0_bits, .int v0_fault, .ref a0_lengths, .ref a0_small, .ref a0_row, .int v0_tokens, .ref a0_tokenLength, .ref a0_tokenValue, .ref a0_counts, .ref a0_smallCounts, .int v0_steps, .ref a0_step, .ref a0_stepMore, .int v0_bitAt, .ref a0_order, .ref a0_listed, .ref a0_before, .ref a0_isSymbol, .ref a0_listSize, .ref a0_latest])), (a0_input, .inl (cI, n0_input, .inl f0_input))] → va_S A s.heap H locs → lv_has ls 1 [(0, .ref a0)] → W p l e rm_Mo_bit s m args below meth c H locs 0 0 (q_Mo_bit below args s dC dI cI cB cZ A a0 a0_input a0_output a0_told a0_lengths a0_small a0_row a0_tokenLength a0_tokenValue a0_counts a0_smallCounts a0_step a0_stepMore a0_order a0_listed a0_before a0_isSymbol a0_listSize a0_latest N v0_inputSize v0_outputSize v0_tokens v0_steps v0_bitAt n0_input f0_input x) (F0 m 19 ls [])
def t_Mo_bit_0 (p : Program) (l : Launch) (e : Env) (s : State) (m : MethodId) (args : Array Value) (below : List Frame) (meth : Method) (c : Code) (dC : Nat → ClassId) (dI : Nat → Nat → Nat) (cI cB cZ : ClassId) (tS : Nat) (A : Nat → Prop) (a0 : Nat) (a0_input : Nat) (a0_output : Nat) (a0_told : Nat) (a0_lengths : Nat) (a0_small : Nat) (a0_row : Nat) (a0_tokenLength : Nat) (a0_tokenValue : Nat) (a0_counts : Nat) (a0_smallCounts : Nat) (a0_step : Nat) (a0_stepMore : Nat) (a0_order : Nat) (a0_listed : Nat) (a0_before : Nat) (a0_isSymbol : Nat) (a0_listSize : Nat) (a0_latest : Nat) (N : Nat) (v0_inputSize : Int32) (v0_outputSize : Int32) (v0_tokens : Int32) (v0_steps : Int32) (v0_bitAt : Int32) (n0_input : Nat) (f0_input : Nat → Int32) (x : Int32 × Int32 × Int32) (F : Int32 → Int32 → Option (Int32 × Int32 × Int32)) : Prop :=
  ∀ (v0_fault : Int32) (v0_bits : Int32), F v0_fault v0_bits = some x → ∀ (H : Heap) (locs : List Loc) (ls : Array Slot), va_P (dC, dI) vwCl [(a0, .inr (10, [.int v0_inputSize, .ref a0_input, .int v0_outputSize, .ref a0_output, .ref a0_told, .int v0_bits, .int v0_fault, .ref a0_lengths, .ref a0_small, .ref a0_row, .int v0_tokens, .ref a0_tokenLength, .ref a0_tokenValue, .ref a0_counts, .ref a0_smallCounts, .int v0_steps, .ref a0_step, .ref a0_stepMore, .int v0_bitAt, .ref a0_order, .ref a0_listed, .ref a0_before, .ref a0_isSymbol, .ref a0_listSize, .ref a0_latest])), (a0_input, .inl (cI, n0_input, .inl f0_input))] H → va_D A [(a0, .inr (10, [.int v0_inputSize, .ref a0_input, .int v0_outputSize, .ref a0_output, .ref a0_told, .int v0_bits, .int v0_fault, .ref a0_lengths, .ref a0_small, .ref a0_row, .int v0_tokens, .ref a0_tokenLength, .ref a0_tokenValue, .ref a0_counts, .ref a0_smallCounts, .int v0_steps, .ref a0_step, .ref a0_stepMore, .int v0_bitAt, .ref a0_order, .ref a0_listed, .ref a0_before, .ref a0_isSymbol, .ref a0_listSize, .ref a0_latest])), (a0_input, .inl (cI, n0_input, .inl f0_input))] → va_S A s.heap H locs → lv_has ls 1 [(0, .ref a0)] → W p l e rm_Mo_bit s m args below meth c H locs 0 0 (q_Mo_bit below args s dC dI cI cB cZ A a0 a0_input a0_output a0_told a0_lengths a0_small a0_row a0_tokenLength a0_tokenValue a0_counts a0_smallCounts a0_step a0_stepMore a0_order a0_listed a0_before a0_isSymbol a0_listSize a0_latest N v0_inputSize v0_outputSize v0_tokens v0_steps v0_bitAt n0_input f0_input x) (F0 m 0 ls [])
def g_Mo_bit_J1 (n0_input : Nat) (f0_input : Nat → Int32) (v0_fault : Int32) (v0_bits : Int32) : Option (Int32 × Int32 × Int32) := (if v0_fault = 0 then (if ((v0_bits + (1 : Int32)) - (1 : Int32)) / (8 : Int32) < 0 ∨ n0_input ≤ (((v0_bits + (1 : Int32)) - (1 : Int32)) / (8 : Int32)).toNatClampNeg then none else some (((f0_input (((v0_bits + (1 : Int32)) - (1 : Int32)) / (8 : Int32)).toNatClampNeg) >>> ((((v0_bits + (1 : Int32)) - (1 : Int32)) - ((v0_bits + (1 : Int32)) - (1 : Int32)) / (8 : Int32) * (8 : Int32)) &&& 31)) &&& (1 : Int32), v0_fault, v0_bits + (1 : Int32))) else some ((0 : Int32), v0_fault, v0_bits))
set_option maxHeartbeats 4000000 in
set_option maxRecDepth 100000 in
theorem w_Mo_bit_J1 {p : Program} {l : Launch} {e : Env} {s : State} {m : MethodId} {args : Array Value} {below : List Frame} {meth : Method} {c : Code} {dC : Nat → ClassId} {dI : Nat → Nat → Nat} {cI cB cZ : ClassId} {tS : Nat} {A : Nat → Prop} (C0 : gz_C p s m args meth c b_Mo_bit 1 (some .int) R_Mo "bit" gz_W A (dC, dI) vwCl [(cI, .int), (cB, .byte), (cZ, .boolean)] tS) (a0 : Nat) (a0_input : Nat) (a0_output : Nat) (a0_told : Nat) (a0_lengths : Nat) (a0_small : Nat) (a0_row : Nat) (a0_tokenLength : Nat) (a0_tokenValue : Nat) (a0_counts : Nat) (a0_smallCounts : Nat) (a0_step : Nat) (a0_stepMore : Nat) (a0_order : Nat) (a0_listed : Nat) (a0_before : Nat) (a0_isSymbol : Nat) (a0_listSize : Nat) (a0_latest : Nat) (N : Nat) (v0_inputSize : Int32) (v0_outputSize : Int32) (v0_tokens : Int32) (v0_steps : Int32) (v0_bitAt : Int32) (n0_input : Nat) (f0_input : Nat → Int32) (x : Int32 × Int32 × Int32) : t_Mo_bit_J1 p l e s m args below meth c dC dI cI cB cZ tS A a0 a0_input a0_output a0_told a0_lengths a0_small a0_row a0_tokenLength a0_tokenValue a0_counts a0_smallCounts a0_step a0_stepMore a0_order a0_listed a0_before a0_isSymbol a0_listSize a0_latest N v0_inputSize v0_outputSize v0_tokens v0_steps v0_bitAt n0_input f0_input x (g_Mo_bit_J1 n0_input f0_input) := by
  obtain ⟨hx, hb, hr, hml, hown, hin0, hts, hlocks, hA, hK, hE⟩ := id C0
  intro v0_fault v0_bits h H locs ls hP hD hS hl
  rw [g_Mo_bit_J1] at h
  refine lv_aload_n hx hb d_Mo_bit_19 rfl (lv_at hl 0 rfl) ?_
  refine va_get (D := (dC, dI)) (ci := 10) (v := .int v0_fault) (C := R_Mo) (T := F_Mo) (N := 25) hx hb hts in_Mo hown hK hP 0 rfl rfl 6 (by decide) (hts _ kw_489) (fun _ h9 => h9) rfl d_Mo_bit_20 ?_
  refine lv_if_eq (tgt := 28) hx hb d_Mo_bit_23 (by decide) (fun c3 => ?_) (fun c3 => ?_)
  · have h := gz_t h c3
    refine lv_aload_n hx hb d_Mo_bit_28 rfl (lv_at hl 0 rfl) ?_
    refine lv_dup hx hb d_Mo_bit_29 rfl ?_
    refine va_get (D := (dC, dI)) (ci := 10) (v := .int v0_bits) (C := R_Mo) (T := F_Mo) (N := 25) hx hb hts in_Mo hown hK hP 0 rfl rfl 5 (by decide) (hts _ kw_490) (fun _ h9 => h9) rfl d_Mo_bit_30 ?_
    refine lv_iconst (v := (1 : Int32)) hx hb d_Mo_bit_33 (by decide) ?_
    refine lv_iadd hx hb d_Mo_bit_34 ?_
    refine va_put (D := (dC, dI)) (ci := 10) (v := .int (v0_bits + (1 : Int32))) (ty := .int) (C := R_Mo) (T := F_Mo) (N := 25) hx hb hts in_Mo t_Mo t_Mo_ok n_Mo hown hK hP hD hS 0 rfl rfl 5 (by decide) (hts _ kw_490) (fun _ h9 => h9) rfl (by decide +kernel) rfl rfl (Nat.le_of_ble_eq_true rfl) d_Mo_bit_35 (fun H locs hP hD hS => ?_)
    have hP : va_P (dC, dI) vwCl [(a0, .inr (10, [.int v0_inputSize, .ref a0_input, .int v0_outputSize, .ref a0_output, .ref a0_told, .int (v0_bits + (1 : Int32)), .int v0_fault, .ref a0_lengths, .ref a0_small, .ref a0_row, .int v0_tokens, .ref a0_tokenLength, .ref a0_tokenValue, .ref a0_counts, .ref a0_smallCounts, .int v0_steps, .ref a0_step, .ref a0_stepMore, .int v0_bitAt, .ref a0_order, .ref a0_listed, .ref a0_before, .ref a0_isSymbol, .ref a0_listSize, .ref a0_latest])), (a0_input, .inl (cI, n0_input, .inl f0_input))] H := hP
    have hD : va_D A [(a0, .inr (10, [.int v0_inputSize, .ref a0_input, .int v0_outputSize, .ref a0_output, .ref a0_told, .int (v0_bits + (1 : Int32)), .int v0_fault, .ref a0_lengths, .ref a0_small, .ref a0_row, .int v0_tokens, .ref a0_tokenLength, .ref a0_tokenValue, .ref a0_counts, .ref a0_smallCounts, .int v0_steps, .ref a0_step, .ref a0_stepMore, .int v0_bitAt, .ref a0_order, .ref a0_listed, .ref a0_before, .ref a0_isSymbol, .ref a0_listSize, .ref a0_latest])), (a0_input, .inl (cI, n0_input, .inl f0_input))] := hD
    refine lv_aload_n hx hb d_Mo_bit_38 rfl (lv_at hl 0 rfl) ?_
    refine va_get (D := (dC, dI)) (ci := 10) (v := .ref a0_input) (C := R_Mo) (T := F_Mo) (N := 25) hx hb hts in_Mo hown hK hP 0 rfl rfl 1 (by decide) (hts _ kw_466) (fun _ h9 => h9) rfl d_Mo_bit_39 ?_
    refine lv_aload_n hx hb d_Mo_bit_42 rfl (lv_at hl 0 rfl) ?_
    refine va_get (D := (dC, dI)) (ci := 10) (v := .int (v0_bits + (1 : Int32))) (C := R_Mo) (T := F_Mo) (N := 25) hx hb hts in_Mo hown hK hP 0 rfl rfl 5 (by decide) (hts _ kw_490) (fun _ h9 => h9) rfl d_Mo_bit_43 ?_
    refine lv_iconst (v := (1 : Int32)) hx hb d_Mo_bit_46 (by decide) ?_
    refine lv_isub hx hb d_Mo_bit_47 ?_
    refine lv_bipush (v := (8 : Int32)) hx hb d_Mo_bit_48 (by decide) ?_
    refine lv_idiv hx hb d_Mo_bit_50 (by decide) ?_
    obtain ⟨hi4, h⟩ := gz_n h
    refine va_iald hx hb hK hP 1 0 rfl rfl hi4 d_Mo_bit_51 ?_
    refine lv_aload_n hx hb d_Mo_bit_52 rfl (lv_at hl 0 rfl) ?_
    refine va_get (D := (dC, dI)) (ci := 10) (v := .int (v0_bits + (1 : Int32))) (C := R_Mo) (T := F_Mo) (N := 25) hx hb hts in_Mo hown hK hP 0 rfl rfl 5 (by decide) (hts _ kw_490) (fun _ h9 => h9) rfl d_Mo_bit_53 ?_
    refine lv_iconst (v := (1 : Int32)) hx hb d_Mo_bit_56 (by decide) ?_
    refine lv_isub hx hb d_Mo_bit_57 ?_
    refine lv_bipush (v := (8 : Int32)) hx hb d_Mo_bit_58 (by decide) ?_
    refine lv_irem hx hb d_Mo_bit_60 (by decide) ?_
    refine lv_ishr hx hb d_Mo_bit_61 ?_
    refine lv_iconst (v := (1 : Int32)) hx hb d_Mo_bit_62 (by decide) ?_
    refine lv_iand hx hb d_Mo_bit_63 ?_
    obtain rfl := Option.some.inj h
    exact W.iret (v := ((f0_input (((v0_bits + (1 : Int32)) - (1 : Int32)) / (8 : Int32)).toNatClampNeg) >>> ((((v0_bits + (1 : Int32)) - (1 : Int32)) - ((v0_bits + (1 : Int32)) - (1 : Int32)) / (8 : Int32) * (8 : Int32)) &&& 31)) &&& (1 : Int32)) hx hb hr (fun t ht hW => ⟨⟨((f0_input (((v0_bits + (1 : Int32)) - (1 : Int32)) / (8 : Int32)).toNatClampNeg) >>> ((((v0_bits + (1 : Int32)) - (1 : Int32)) - ((v0_bits + (1 : Int32)) - (1 : Int32)) / (8 : Int32) * (8 : Int32)) &&& 31)) &&& (1 : Int32), (), rfl, rfl, by rw [ht]; exact hP.sub [0, 1] rfl, hD.sub [0, 1] (by decide) rfl⟩, hS.F ht⟩) hS.2.2 d_Mo_bit_64
  · have h := gz_f h c3
    refine lv_iconst (v := (0 : Int32)) hx hb d_Mo_bit_26 (by decide) ?_
    obtain rfl := Option.some.inj h
    exact W.iret (v := (0 : Int32)) hx hb hr (fun t ht hW => ⟨⟨(0 : Int32), (), rfl, rfl, by rw [ht]; exact hP.sub [0, 1] rfl, hD.sub [0, 1] (by decide) rfl⟩, hS.F ht⟩) hS.2.2 d_Mo_bit_27
def g_Mo_bit_0 (v0_inputSize : Int32) (n0_input : Nat) (f0_input : Nat → Int32) (v0_fault : Int32) (v0_bits : Int32) : Option (Int32 × Int32 × Int32) := (if v0_bits < ((8 : Int32) * v0_inputSize) then (g_Mo_bit_J1 n0_input f0_input v0_fault v0_bits) else (Option.bind (g_Mo_blame_0 (2 : Int32) v0_fault) (fun r2 => (g_Mo_bit_J1 n0_input f0_input r2 v0_bits))))
set_option maxHeartbeats 4000000 in
set_option maxRecDepth 100000 in
theorem w_Mo_bit_0 {p : Program} {l : Launch} {e : Env} {s : State} {m : MethodId} {args : Array Value} {below : List Frame} {meth : Method} {c : Code} {dC : Nat → ClassId} {dI : Nat → Nat → Nat} {cI cB cZ : ClassId} {tS : Nat} {A : Nat → Prop} (C0 : gz_C p s m args meth c b_Mo_bit 1 (some .int) R_Mo "bit" gz_W A (dC, dI) vwCl [(cI, .int), (cB, .byte), (cZ, .boolean)] tS) (a0 : Nat) (a0_input : Nat) (a0_output : Nat) (a0_told : Nat) (a0_lengths : Nat) (a0_small : Nat) (a0_row : Nat) (a0_tokenLength : Nat) (a0_tokenValue : Nat) (a0_counts : Nat) (a0_smallCounts : Nat) (a0_step : Nat) (a0_stepMore : Nat) (a0_order : Nat) (a0_listed : Nat) (a0_before : Nat) (a0_isSymbol : Nat) (a0_listSize : Nat) (a0_latest : Nat) (N : Nat) (v0_inputSize : Int32) (v0_outputSize : Int32) (v0_tokens : Int32) (v0_steps : Int32) (v0_bitAt : Int32) (n0_input : Nat) (f0_input : Nat → Int32) (x : Int32 × Int32 × Int32) : t_Mo_bit_0 p l e s m args below meth c dC dI cI cB cZ tS A a0 a0_input a0_output a0_told a0_lengths a0_small a0_row a0_tokenLength a0_tokenValue a0_counts a0_smallCounts a0_step a0_stepMore a0_order a0_listed a0_before a0_isSymbol a0_listSize a0_latest N v0_inputSize v0_outputSize v0_tokens v0_steps v0_bitAt n0_input f0_input x (g_Mo_bit_0 v0_inputSize n0_input f0_input) := by
  obtain ⟨hx, hb, hr, hml, hown, hin0, hts, hlocks, hA, hK, hE⟩ := id C0
  intro v0_fault v0_bits h H locs ls hP hD hS hl
  rw [g_Mo_bit_0] at h
  refine lv_aload_n hx hb d_Mo_bit_0 rfl (lv_at hl 0 rfl) ?_
  refine va_get (D := (dC, dI)) (ci := 10) (v := .int v0_bits) (C := R_Mo) (T := F_Mo) (N := 25) hx hb hts in_Mo hown hK hP 0 rfl rfl 5 (by decide) (hts _ kw_490) (fun _ h9 => h9) rfl d_Mo_bit_1 ?_
  refine lv_bipush (v := (8 : Int32)) hx hb d_Mo_bit_4 (by decide) ?_
  refine lv_aload_n hx hb d_Mo_bit_6 rfl (lv_at hl 0 rfl) ?_
  refine va_get (D := (dC, dI)) (ci := 10) (v := .int v0_inputSize) (C := R_Mo) (T := F_Mo) (N := 25) hx hb hts in_Mo hown hK hP 0 rfl rfl 0 (by decide) (hts _ kw_485) (fun _ h9 => h9) rfl d_Mo_bit_7 ?_
  refine lv_imul hx hb d_Mo_bit_10 ?_
  refine lv_icmp_lt (tgt := 19) hx hb d_Mo_bit_11 (by decide) (fun c1 => ?_) (fun c1 => ?_)
  · have h := gz_t h c1
    exact (w_Mo_bit_J1 C0 a0 a0_input a0_output a0_told a0_lengths a0_small a0_row a0_tokenLength a0_tokenValue a0_counts a0_smallCounts a0_step a0_stepMore a0_order a0_listed a0_before a0_isSymbol a0_listSize a0_latest N v0_inputSize v0_outputSize v0_tokens v0_steps v0_bitAt n0_input f0_input x) v0_fault v0_bits h _ _ _ (hP.sub [0, 1] rfl) (hD.sub [0, 1] (by decide) rfl) hS (lv_sub hl [0] rfl)
  · have h := gz_f h c1
    refine lv_aload_n hx hb d_Mo_bit_14 rfl (lv_at hl 0 rfl) ?_
    refine lv_iconst (v := (2 : Int32)) hx hb d_Mo_bit_15 (by decide) ?_
    obtain ⟨r2, hcr2, h⟩ := gz_b h
    refine gz_cv hP hD hS hA [0] [1] (wr := [(a0_input, .inl (cI, n0_input, .inl f0_input))]) rfl rfl (by decide) (by decide) (va_runV (As := [.int (2 : Int32)]) (rest := []) ⟨hx, hb, hml, hown, hts⟩ (c_Mo_blame l dC dI cI cB cZ tS a0 a0_input a0_output a0_told a0_lengths a0_small a0_row a0_tokenLength a0_tokenValue a0_counts a0_smallCounts a0_step a0_stepMore a0_order a0_listed a0_before a0_isSymbol a0_listSize a0_latest H.size N v0_inputSize v0_outputSize v0_bits v0_tokens v0_steps v0_bitAt (2 : Int32) v0_fault r2 hcr2) (cwV 1 hts (gz_gV kw_493 kw_494 kw_495 kw_492 kw_491) rfl rfl rfl (by decide +kernel) ⟨(Nat.le_of_ble_eq_true rfl), (Nat.le_of_ble_eq_true rfl)⟩) (gz_preV hK hE hP hD hS hA [0] (by decide) rfl 0 10 rfl rfl) rfl rfl hl.1 rfl (lv_room (Nat.le_of_ble_eq_true rfl)) d_Mo_bit_16 ⟨(Nat.le_of_ble_eq_true rfl), (Nat.le_of_ble_eq_true rfl)⟩) (fun _ H locs hP hD hS => ?_)
    have hP : va_P (dC, dI) vwCl [(a0_input, .inl (cI, n0_input, .inl f0_input)), (a0, .inr (10, [.int v0_inputSize, .ref a0_input, .int v0_outputSize, .ref a0_output, .ref a0_told, .int v0_bits, .int r2, .ref a0_lengths, .ref a0_small, .ref a0_row, .int v0_tokens, .ref a0_tokenLength, .ref a0_tokenValue, .ref a0_counts, .ref a0_smallCounts, .int v0_steps, .ref a0_step, .ref a0_stepMore, .int v0_bitAt, .ref a0_order, .ref a0_listed, .ref a0_before, .ref a0_isSymbol, .ref a0_listSize, .ref a0_latest]))] H := hP
    have hD : va_D A [(a0_input, .inl (cI, n0_input, .inl f0_input)), (a0, .inr (10, [.int v0_inputSize, .ref a0_input, .int v0_outputSize, .ref a0_output, .ref a0_told, .int v0_bits, .int r2, .ref a0_lengths, .ref a0_small, .ref a0_row, .int v0_tokens, .ref a0_tokenLength, .ref a0_tokenValue, .ref a0_counts, .ref a0_smallCounts, .int v0_steps, .ref a0_step, .ref a0_stepMore, .int v0_bitAt, .ref a0_order, .ref a0_listed, .ref a0_before, .ref a0_isSymbol, .ref a0_listSize, .ref a0_latest]))] := hD
    exact (w_Mo_bit_J1 C0 a0 a0_input a0_output a0_told a0_lengths a0_small a0_row a0_tokenLength a0_tokenValue a0_counts a0_smallCounts a0_step a0_stepMore a0_order a0_listed a0_before a0_isSymbol a0_listSize a0_latest N v0_inputSize v0_outputSize v0_tokens v0_steps v0_bitAt n0_input f0_input x) r2 v0_bits h _ _ _ (hP.sub [1, 0] rfl) (hD.sub [1, 0] (by decide) rfl) hS (lv_sub hl [0] rfl)
set_option maxHeartbeats 4000000 in
set_option maxRecDepth 100000 in
theorem c_Mo_bit (l : Launch) (dC : Nat → ClassId) (dI : Nat → Nat → Nat) (cI cB cZ : ClassId) (tS : Nat) (a0 : Nat) (a0_input : Nat) (a0_output : Nat) (a0_told : Nat) (a0_lengths : Nat) (a0_small : Nat) (a0_row : Nat) (a0_tokenLength : Nat) (a0_tokenValue : Nat) (a0_counts : Nat) (a0_smallCounts : Nat) (a0_step : Nat) (a0_stepMore : Nat) (a0_order : Nat) (a0_listed : Nat) (a0_before : Nat) (a0_isSymbol : Nat) (a0_listSize : Nat) (a0_latest : Nat) (sz : Nat) (N : Nat) (v0_inputSize : Int32) (v0_outputSize : Int32) (v0_tokens : Int32) (v0_steps : Int32) (v0_bitAt : Int32) (n0_input : Nat) (f0_input : Nat → Int32) (v0_fault : Int32) (v0_bits : Int32) (x : Int32 × Int32 × Int32) (hf : (g_Mo_bit_0 v0_inputSize n0_input f0_input v0_fault v0_bits) = some x) : Met l y_Mo_bit w_Mo_bitS rm_Mo_bit (gz_Pc [.ref a0] (dC, dI) vwCl [(cI, .int), (cB, .byte), (cZ, .boolean)] tS [(a0, .inr (10, [.int v0_inputSize, .ref a0_input, .int v0_outputSize, .ref a0_output, .ref a0_told, .int v0_bits, .int v0_fault, .ref a0_lengths, .ref a0_small, .ref a0_row, .int v0_tokens, .ref a0_tokenLength, .ref a0_tokenValue, .ref a0_counts, .ref a0_smallCounts, .int v0_steps, .ref a0_step, .ref a0_stepMore, .int v0_bitAt, .ref a0_order, .ref a0_listed, .ref a0_before, .ref a0_isSymbol, .ref a0_listSize, .ref a0_latest])), (a0_input, .inl (cI, n0_input, .inl f0_input))] sz) (va_Qi (fun r (_ : Unit) => r = x.1) (gz_B (dC, dI) vwCl (va_A [(a0, .inr (10, [.int v0_inputSize, .ref a0_input, .int v0_outputSize, .ref a0_output, .ref a0_told, .int v0_bits, .int v0_fault, .ref a0_lengths, .ref a0_small, .ref a0_row, .int v0_tokens, .ref a0_tokenLength, .ref a0_tokenValue, .ref a0_counts, .ref a0_smallCounts, .int v0_steps, .ref a0_step, .ref a0_stepMore, .int v0_bitAt, .ref a0_order, .ref a0_listed, .ref a0_before, .ref a0_isSymbol, .ref a0_listSize, .ref a0_latest])), (a0_input, .inl (cI, n0_input, .inl f0_input))] sz) (e_Mo_bit dC dI cI cB cZ a0 a0_input a0_output a0_told a0_lengths a0_small a0_row a0_tokenLength a0_tokenValue a0_counts a0_smallCounts a0_step a0_stepMore a0_order a0_listed a0_before a0_isSymbol a0_listSize a0_latest N v0_inputSize v0_outputSize v0_tokens v0_steps v0_bitAt n0_input f0_input x)) (va_A [(a0, .inr (10, [.int v0_inputSize, .ref a0_input, .int v0_outputSize, .ref a0_output, .ref a0_told, .int v0_bits, .int v0_fault, .ref a0_lengths, .ref a0_small, .ref a0_row, .int v0_tokens, .ref a0_tokenLength, .ref a0_tokenValue, .ref a0_counts, .ref a0_smallCounts, .int v0_steps, .ref a0_step, .ref a0_stepMore, .int v0_bitAt, .ref a0_order, .ref a0_listed, .ref a0_before, .ref a0_isSymbol, .ref a0_listSize, .ref a0_latest])), (a0_input, .inl (cI, n0_input, .inl f0_input))] sz)) 0 0 (va_A [(a0, .inr (10, [.int v0_inputSize, .ref a0_input, .int v0_outputSize, .ref a0_output, .ref a0_told, .int v0_bits, .int v0_fault, .ref a0_lengths, .ref a0_small, .ref a0_row, .int v0_tokens, .ref a0_tokenLength, .ref a0_tokenValue, .ref a0_counts, .ref a0_smallCounts, .int v0_steps, .ref a0_step, .ref a0_stepMore, .int v0_bitAt, .ref a0_order, .ref a0_listed, .ref a0_before, .ref a0_isSymbol, .ref a0_listSize, .ref a0_latest])), (a0_input, .inl (cI, n0_input, .inl f0_input))] sz) := by
  refine Met.ofW (cc := b_Mo_bit) (maxL := 1) (ret := (some .int)) (by decide) rfl ?_
  intro p e s m args below meth c s₁ B hml hv
  obtain ⟨rfl, hsz, hP, hK, hD0, hE⟩ := hv
  subst hsz
  have hl := lv_entry ([.ref a0]) (n := 1) (Nat.le_of_ble_eq_true rfl)
  rw [lg_entry_eq]
  generalize (lg_sl ([.ref a0]) ++ List.replicate (1 - (lg_sl ([.ref a0])).length) Slot.unset).toArray = ls at hl ⊢
  have C0 : gz_C p s m _ meth c b_Mo_bit 1 (some .int) R_Mo "bit" gz_W _ (dC, dI) vwCl [(cI, .int), (cB, .byte), (cZ, .boolean)] tS := ⟨B.exec, B.bytes, B.returns, hml, findClass_of_methodNamed B.named, (name_of_methodNamed B.named B.method).1, fun w h => atoms_spec (ws := w_Mo_bitS) B.pre w (List.mem_cons_of_mem _ h), B.notSynchronized, fun q h => Or.inr h, hK, hE⟩
  exact w_Mo_bit_0 C0 a0 a0_input a0_output a0_told a0_lengths a0_small a0_row a0_tokenLength a0_tokenValue a0_counts a0_smallCounts a0_step a0_stepMore a0_order a0_listed a0_before a0_isSymbol a0_listSize a0_latest N v0_inputSize v0_outputSize v0_tokens v0_steps v0_bitAt n0_input f0_input x v0_fault v0_bits hf _ _ _ hP (hD0.self (sz := s.heap.size)) va_S.rf (lv_sub hl [0] rfl)
abbrev rm_Mo_number : Room := { frames := 2, cells := 0, slots := 0, locals := 41 }
abbrev e_Mo_number (dC : Nat → ClassId) (dI : Nat → Nat → Nat) (cI cB cZ : ClassId) (a0 : Nat) (a0_input : Nat) (a0_output : Nat) (a0_told : Nat) (a0_lengths : Nat) (a0_small : Nat) (a0_row : Nat) (a0_tokenLength : Nat) (a0_tokenValue : Nat) (a0_counts : Nat) (a0_smallCounts : Nat) (a0_step : Nat) (a0_stepMore : Nat) (a0_order : Nat) (a0_listed : Nat) (a0_before : Nat) (a0_isSymbol : Nat) (a0_listSize : Nat) (a0_latest : Nat) (N : Nat) (v0_inputSize : Int32) (v0_outputSize : Int32) (v0_tokens : Int32) (v0_steps : Int32) (v0_bitAt : Int32) (n0_input : Nat) (f0_input : Nat → Int32) (x : Int32 × Int32 × Int32) (u : Unit) : va_W := [(a0, .inr (10, [.int v0_inputSize, .ref a0_input, .int v0_outputSize, .ref a0_output, .ref a0_told, .int x.2.2, .int x.2.1, .ref a0_lengths, .ref a0_small, .ref a0_row, .int v0_tokens, .ref a0_tokenLength, .ref a0_tokenValue, .ref a0_counts, .ref a0_smallCounts, .int v0_steps, .ref a0_step, .ref a0_stepMore, .int v0_bitAt, .ref a0_order, .ref a0_listed, .ref a0_before, .ref a0_isSymbol, .ref a0_listSize, .ref a0_latest])), (a0_input, .inl (cI, n0_input, .inl f0_input))]
abbrev q_Mo_number (below : List Frame) (args : Array Value) (s : State) (dC : Nat → ClassId) (dI : Nat → Nat → Nat) (cI cB cZ : ClassId) (A : Nat → Prop) (a0 : Nat) (a0_input : Nat) (a0_output : Nat) (a0_told : Nat) (a0_lengths : Nat) (a0_small : Nat) (a0_row : Nat) (a0_tokenLength : Nat) (a0_tokenValue : Nat) (a0_counts : Nat) (a0_smallCounts : Nat) (a0_step : Nat) (a0_stepMore : Nat) (a0_order : Nat) (a0_listed : Nat) (a0_before : Nat) (a0_isSymbol : Nat) (a0_listSize : Nat) (a0_latest : Nat) (N : Nat) (v0_inputSize : Int32) (v0_outputSize : Int32) (v0_tokens : Int32) (v0_steps : Int32) (v0_bitAt : Int32) (n0_input : Nat) (f0_input : Nat → Int32) (x : Int32 × Int32 × Int32) : State → Prop := MQ below (va_Qi (fun r (_ : Unit) => r = x.1) (gz_B (dC, dI) vwCl A (e_Mo_number dC dI cI cB cZ a0 a0_input a0_output a0_told a0_lengths a0_small a0_row a0_tokenLength a0_tokenValue a0_counts a0_smallCounts a0_step a0_stepMore a0_order a0_listed a0_before a0_isSymbol a0_listSize a0_latest N v0_inputSize v0_outputSize v0_tokens v0_steps v0_bitAt n0_input f0_input x)) A) args s 0 0 A
def t_Mo_number_L1 (p : Program) (l : Launch) (e : Env) (s : State) (m : MethodId) (args : Array Value) (below : List Frame) (meth : Method) (c : Code) (dC : Nat → ClassId) (dI : Nat → Nat → Nat) (cI cB cZ : ClassId) (tS : Nat) (A : Nat → Prop) (a0 : Nat) (a0_input : Nat) (a0_output : Nat) (a0_told : Nat) (a0_lengths : Nat) (a0_small : Nat) (a0_row : Nat) (a0_tokenLength : Nat) (a0_tokenValue : Nat) (a0_counts : Nat) (a0_smallCounts : Nat) (a0_step : Nat) (a0_stepMore : Nat) (a0_order : Nat) (a0_listed : Nat) (a0_before : Nat) (a0_isSymbol : Nat) (a0_listSize : Nat) (a0_latest : Nat) (N : Nat) (v0_inputSize : Int32) (v0_outputSize : Int32) (v0_tokens : Int32) (v0_steps : Int32) (v0_bitAt : Int32) (n0_input : Nat) (f0_input : Nat → Int32) (x : Int32 × Int32 × Int32) (F : Int32 → Int32 → Int32 → Int32 → Int32 → Option (Int32 × Int32 × Int32)) : Prop :=
  ∀ (x1 : Int32) (x2 : Int32) (x3 : Int32) (v0_fault : Int32) (v0_bits : Int32), F x1 x2 x3 v0_fault v0_bits = some x → ∀ (H : Heap) (locs : List Loc) (ls : Array Slot), va_P (dC, dI) vwCl [(a0, .inr (10, [.int v0_inputSize, .ref a0_input, .int v0_outputSize, .ref a0_output, .ref a0_told, .int v0_bits, .int v0_fault, .ref a0_lengths, .ref a0_small, .ref a0_row, .int v0_tokens, .ref a0_tokenLength, .ref a0_tokenValue, .ref a0_counts, .ref a0_smallCounts, .int v0_steps, .ref a0_step, .ref a0_stepMore, .int v0_bitAt, .ref a0_order, .ref a0_listed, .ref a0_before, .ref a0_isSymbol, .ref a0_listSize, .ref a0_latest])), (a0_input, .inl (cI, n0_input, .inl f0_input))] H → va_D A [(a0, .inr (10, [.int v0_inputSize, .ref a0_input, .int v0_outputSize, .ref a0_output, .ref a0_told, .int v0_bits, .int v0_fault, .ref a0_lengths, .ref a0_small, .ref a0_row, .int v0_tokens, .ref a0_tokenLength, .ref a0_tokenValue, .ref a0_counts, .ref a0_smallCounts, .int v0_steps, .ref a0_step, .ref a0_stepMore, .int v0_bitAt, .ref a0_order, .ref a0_listed, .ref a0_before, .ref a0_isSymbol, .ref a0_listSize, .ref a0_latest])), (a0_input, .inl (cI, n0_input, .inl f0_input))] → va_S A s.heap H locs → lv_has ls 4 [(0, .ref a0), (1, .int x1), (2, .int x2), (3, .int x3)] → W p l e rm_Mo_number s m args below meth c H locs 0 0 (q_Mo_number below args s dC dI cI cB cZ A a0 a0_input a0_output a0_told a0_lengths a0_small a0_row a0_tokenLength a0_tokenValue a0_counts a0_smallCounts a0_step a0_stepMore a0_order a0_listed a0_before a0_isSymbol a0_listSize a0_latest N v0_inputSize v0_outputSize v0_tokens v0_steps v0_bitAt n0_input f0_input x) (F0 m 4 ls [])
def t_Mo_number_0 (p : Program) (l : Launch) (e : Env) (s : State) (m : MethodId) (args : Array Value) (below : List Frame) (meth : Method) (c : Code) (dC : Nat → ClassId) (dI : Nat → Nat → Nat) (cI cB cZ : ClassId) (tS : Nat) (A : Nat → Prop) (a0 : Nat) (a0_input : Nat) (a0_output : Nat) (a0_told : Nat) (a0_lengths : Nat) (a0_small : Nat) (a0_row : Nat) (a0_tokenLength : Nat) (a0_tokenValue : Nat) (a0_counts : Nat) (a0_smallCounts : Nat) (a0_step : Nat) (a0_stepMore : Nat) (a0_order : Nat) (a0_listed : Nat) (a0_before : Nat) (a0_isSymbol : Nat) (a0_listSize : Nat) (a0_latest : Nat) (N : Nat) (v0_inputSize : Int32) (v0_outputSize : Int32) (v0_tokens : Int32) (v0_steps : Int32) (v0_bitAt : Int32) (n0_input : Nat) (f0_input : Nat → Int32) (x : Int32 × Int32 × Int32) (F : Int32 → Int32 → Int32 → Option (Int32 × Int32 × Int32)) : Prop :=
  ∀ (x1 : Int32) (v0_fault : Int32) (v0_bits : Int32), F x1 v0_fault v0_bits = some x → ∀ (H : Heap) (locs : List Loc) (ls : Array Slot), va_P (dC, dI) vwCl [(a0, .inr (10, [.int v0_inputSize, .ref a0_input, .int v0_outputSize, .ref a0_output, .ref a0_told, .int v0_bits, .int v0_fault, .ref a0_lengths, .ref a0_small, .ref a0_row, .int v0_tokens, .ref a0_tokenLength, .ref a0_tokenValue, .ref a0_counts, .ref a0_smallCounts, .int v0_steps, .ref a0_step, .ref a0_stepMore, .int v0_bitAt, .ref a0_order, .ref a0_listed, .ref a0_before, .ref a0_isSymbol, .ref a0_listSize, .ref a0_latest])), (a0_input, .inl (cI, n0_input, .inl f0_input))] H → va_D A [(a0, .inr (10, [.int v0_inputSize, .ref a0_input, .int v0_outputSize, .ref a0_output, .ref a0_told, .int v0_bits, .int v0_fault, .ref a0_lengths, .ref a0_small, .ref a0_row, .int v0_tokens, .ref a0_tokenLength, .ref a0_tokenValue, .ref a0_counts, .ref a0_smallCounts, .int v0_steps, .ref a0_step, .ref a0_stepMore, .int v0_bitAt, .ref a0_order, .ref a0_listed, .ref a0_before, .ref a0_isSymbol, .ref a0_listSize, .ref a0_latest])), (a0_input, .inl (cI, n0_input, .inl f0_input))] → va_S A s.heap H locs → lv_has ls 4 [(0, .ref a0), (1, .int x1)] → W p l e rm_Mo_number s m args below meth c H locs 0 0 (q_Mo_number below args s dC dI cI cB cZ A a0 a0_input a0_output a0_told a0_lengths a0_small a0_row a0_tokenLength a0_tokenValue a0_counts a0_smallCounts a0_step a0_stepMore a0_order a0_listed a0_before a0_isSymbol a0_listSize a0_latest N v0_inputSize v0_outputSize v0_tokens v0_steps v0_bitAt n0_input f0_input x) (F0 m 0 ls [])
def g_Mo_number_L1 (v0_inputSize : Int32) (n0_input : Nat) (f0_input : Nat → Int32) : Nat → Int32 → Int32 → Int32 → Int32 → Int32 → Option (Int32 × Int32 × Int32)
  | 0, _, _, _, _, _ => none
  | n + 1, x1, x2, x3, v0_fault, v0_bits => (if x1 ≤ x3 then some (x2, v0_fault, v0_bits) else (Option.bind (g_Mo_bit_0 v0_inputSize n0_input f0_input v0_fault v0_bits) (fun r2 => (g_Mo_number_L1 v0_inputSize n0_input f0_input n x1 (x2 ||| (r2.1 <<< (x3 &&& 31))) (x3 + (1 : Int32)) r2.2.1 r2.2.2))))
set_option maxHeartbeats 4000000 in
set_option maxRecDepth 100000 in
theorem w_Mo_number_L1 {p : Program} {l : Launch} {e : Env} {s : State} {m : MethodId} {args : Array Value} {below : List Frame} {meth : Method} {c : Code} {dC : Nat → ClassId} {dI : Nat → Nat → Nat} {cI cB cZ : ClassId} {tS : Nat} {A : Nat → Prop} (C0 : gz_C p s m args meth c b_Mo_number 4 (some .int) R_Mo "number" gz_W A (dC, dI) vwCl [(cI, .int), (cB, .byte), (cZ, .boolean)] tS) (a0 : Nat) (a0_input : Nat) (a0_output : Nat) (a0_told : Nat) (a0_lengths : Nat) (a0_small : Nat) (a0_row : Nat) (a0_tokenLength : Nat) (a0_tokenValue : Nat) (a0_counts : Nat) (a0_smallCounts : Nat) (a0_step : Nat) (a0_stepMore : Nat) (a0_order : Nat) (a0_listed : Nat) (a0_before : Nat) (a0_isSymbol : Nat) (a0_listSize : Nat) (a0_latest : Nat) (N : Nat) (v0_inputSize : Int32) (v0_outputSize : Int32) (v0_tokens : Int32) (v0_steps : Int32) (v0_bitAt : Int32) (n0_input : Nat) (f0_input : Nat → Int32) (x : Int32 × Int32 × Int32) : ∀ n : Nat, t_Mo_number_L1 p l e s m args below meth c dC dI cI cB cZ tS A a0 a0_input a0_output a0_told a0_lengths a0_small a0_row a0_tokenLength a0_tokenValue a0_counts a0_smallCounts a0_step a0_stepMore a0_order a0_listed a0_before a0_isSymbol a0_listSize a0_latest N v0_inputSize v0_outputSize v0_tokens v0_steps v0_bitAt n0_input f0_input x (g_Mo_number_L1 v0_inputSize n0_input f0_input n) := by
  obtain ⟨hx, hb, hr, hml, hown, hin0, hts, hlocks, hA, hK, hE⟩ := id C0
  intro n
  induction n with
  | zero =>
    intro x1 x2 x3 v0_fault v0_bits h
    cases h
  | succ n ih =>
    intro x1 x2 x3 v0_fault v0_bits h H locs ls hP hD hS hl
    rw [g_Mo_number_L1] at h
    refine lv_iload_n hx hb d_Mo_number_4 rfl (lv_at hl 3 rfl) ?_
    refine lv_iload_n hx hb d_Mo_number_5 rfl (lv_at hl 1 rfl) ?_
    refine lv_icmp_ge (tgt := 24) hx hb d_Mo_number_6 (by decide) (fun c1 => ?_) (fun c1 => ?_)
    · have h := gz_t h c1
      refine lv_iload_n hx hb d_Mo_number_24 rfl (lv_at hl 2 rfl) ?_
      obtain rfl := Option.some.inj h
      exact W.iret (v := x2) hx hb hr (fun t ht hW => ⟨⟨x2, (), rfl, rfl, by rw [ht]; exact hP.sub [0, 1] rfl, hD.sub [0, 1] (by decide) rfl⟩, hS.F ht⟩) hS.2.2 d_Mo_number_25
    · have h := gz_f h c1
      refine lv_iload_n hx hb d_Mo_number_9 rfl (lv_at hl 2 rfl) ?_
      refine lv_aload_n hx hb d_Mo_number_10 rfl (lv_at hl 0 rfl) ?_
      obtain ⟨r2, hcr2, h⟩ := gz_b h
      refine gz_ci hP hD hS hA [0, 1] [] (wr := []) rfl rfl (by decide) (by decide) (va_runV (As := []) (rest := [.int x2]) ⟨hx, hb, hml, hown, hts⟩ (c_Mo_bit l dC dI cI cB cZ tS a0 a0_input a0_output a0_told a0_lengths a0_small a0_row a0_tokenLength a0_tokenValue a0_counts a0_smallCounts a0_step a0_stepMore a0_order a0_listed a0_before a0_isSymbol a0_listSize a0_latest H.size N v0_inputSize v0_outputSize v0_tokens v0_steps v0_bitAt n0_input f0_input v0_fault v0_bits r2 hcr2) (cwV 0 hts (gz_gV kw_497 kw_498 kw_499 kw_492 kw_496) rfl rfl rfl (by decide +kernel) ⟨(Nat.le_of_ble_eq_true rfl), (Nat.le_of_ble_eq_true rfl)⟩) (gz_preV hK hE hP hD hS hA [0, 1] (by decide) rfl 0 10 rfl rfl) rfl rfl hl.1 rfl (lv_room (Nat.le_of_ble_eq_true rfl)) d_Mo_number_11 ⟨(Nat.le_of_ble_eq_true rfl), (Nat.le_of_ble_eq_true rfl)⟩) (fun _ H locs hP hD hS => ?_)
      have hP : va_P (dC, dI) vwCl [(a0, .inr (10, [.int v0_inputSize, .ref a0_input, .int v0_outputSize, .ref a0_output, .ref a0_told, .int r2.2.2, .int r2.2.1, .ref a0_lengths, .ref a0_small, .ref a0_row, .int v0_tokens, .ref a0_tokenLength, .ref a0_tokenValue, .ref a0_counts, .ref a0_smallCounts, .int v0_steps, .ref a0_step, .ref a0_stepMore, .int v0_bitAt, .ref a0_order, .ref a0_listed, .ref a0_before, .ref a0_isSymbol, .ref a0_listSize, .ref a0_latest])), (a0_input, .inl (cI, n0_input, .inl f0_input))] H := hP
      have hD : va_D A [(a0, .inr (10, [.int v0_inputSize, .ref a0_input, .int v0_outputSize, .ref a0_output, .ref a0_told, .int r2.2.2, .int r2.2.1, .ref a0_lengths, .ref a0_small, .ref a0_row, .int v0_tokens, .ref a0_tokenLength, .ref a0_tokenValue, .ref a0_counts, .ref a0_smallCounts, .int v0_steps, .ref a0_step, .ref a0_stepMore, .int v0_bitAt, .ref a0_order, .ref a0_listed, .ref a0_before, .ref a0_isSymbol, .ref a0_listSize, .ref a0_latest])), (a0_input, .inl (cI, n0_input, .inl f0_input))] := hD
      refine lv_iload_n hx hb d_Mo_number_14 rfl (lv_at hl 3 rfl) ?_
      refine lv_ishl hx hb d_Mo_number_15 ?_
      refine lv_ior hx hb d_Mo_number_16 ?_
      refine lv_istore_n (lv' := [(2, .int (x2 ||| (r2.1 <<< (x3 &&& 31)))), (0, .ref a0), (1, .int x1), (3, .int x3)]) hx hb d_Mo_number_17 rfl hl (by decide) rfl (fun ls hl => ?_)
      refine lv_iinc (v := x3 + (1 : Int32)) (lv' := [(3, .int (x3 + (1 : Int32))), (2, .int (x2 ||| (r2.1 <<< (x3 &&& 31)))), (0, .ref a0), (1, .int x1)]) hx hb d_Mo_number_18 hl (k := 3) rfl rfl (by decide) rfl (fun ls hl => ?_)
      refine lv_goto (tgt := 4) hx hb d_Mo_number_21 (by decide) ?_
      exact ih x1 (x2 ||| (r2.1 <<< (x3 &&& 31))) (x3 + (1 : Int32)) r2.2.1 r2.2.2 h _ _ _ (hP.sub [0, 1] rfl) (hD.sub [0, 1] (by decide) rfl) hS (lv_sub hl [2, 3, 1, 0] rfl)
def g_Mo_number_0 (N : Nat) (v0_inputSize : Int32) (n0_input : Nat) (f0_input : Nat → Int32) (x1 : Int32) (v0_fault : Int32) (v0_bits : Int32) : Option (Int32 × Int32 × Int32) := (g_Mo_number_L1 v0_inputSize n0_input f0_input N x1 (0 : Int32) (0 : Int32) v0_fault v0_bits)
set_option maxHeartbeats 4000000 in
set_option maxRecDepth 100000 in
theorem w_Mo_number_0 {p : Program} {l : Launch} {e : Env} {s : State} {m : MethodId} {args : Array Value} {below : List Frame} {meth : Method} {c : Code} {dC : Nat → ClassId} {dI : Nat → Nat → Nat} {cI cB cZ : ClassId} {tS : Nat} {A : Nat → Prop} (C0 : gz_C p s m args meth c b_Mo_number 4 (some .int) R_Mo "number" gz_W A (dC, dI) vwCl [(cI, .int), (cB, .byte), (cZ, .boolean)] tS) (a0 : Nat) (a0_input : Nat) (a0_output : Nat) (a0_told : Nat) (a0_lengths : Nat) (a0_small : Nat) (a0_row : Nat) (a0_tokenLength : Nat) (a0_tokenValue : Nat) (a0_counts : Nat) (a0_smallCounts : Nat) (a0_step : Nat) (a0_stepMore : Nat) (a0_order : Nat) (a0_listed : Nat) (a0_before : Nat) (a0_isSymbol : Nat) (a0_listSize : Nat) (a0_latest : Nat) (N : Nat) (v0_inputSize : Int32) (v0_outputSize : Int32) (v0_tokens : Int32) (v0_steps : Int32) (v0_bitAt : Int32) (n0_input : Nat) (f0_input : Nat → Int32) (x : Int32 × Int32 × Int32) : t_Mo_number_0 p l e s m args below meth c dC dI cI cB cZ tS A a0 a0_input a0_output a0_told a0_lengths a0_small a0_row a0_tokenLength a0_tokenValue a0_counts a0_smallCounts a0_step a0_stepMore a0_order a0_listed a0_before a0_isSymbol a0_listSize a0_latest N v0_inputSize v0_outputSize v0_tokens v0_steps v0_bitAt n0_input f0_input x (g_Mo_number_0 N v0_inputSize n0_input f0_input) := by
  obtain ⟨hx, hb, hr, hml, hown, hin0, hts, hlocks, hA, hK, hE⟩ := id C0
  intro x1 v0_fault v0_bits h H locs ls hP hD hS hl
  rw [g_Mo_number_0] at h
  refine lv_iconst (v := (0 : Int32)) hx hb d_Mo_number_0 (by decide) ?_
  refine lv_istore_n (lv' := [(2, .int (0 : Int32)), (0, .ref a0), (1, .int x1)]) hx hb d_Mo_number_1 rfl hl (by decide) rfl (fun ls hl => ?_)
  refine lv_iconst (v := (0 : Int32)) hx hb d_Mo_number_2 (by decide) ?_
  refine lv_istore_n (lv' := [(3, .int (0 : Int32)), (2, .int (0 : Int32)), (0, .ref a0), (1, .int x1)]) hx hb d_Mo_number_3 rfl hl (by decide) rfl (fun ls hl => ?_)
  exact (w_Mo_number_L1 C0 a0 a0_input a0_output a0_told a0_lengths a0_small a0_row a0_tokenLength a0_tokenValue a0_counts a0_smallCounts a0_step a0_stepMore a0_order a0_listed a0_before a0_isSymbol a0_listSize a0_latest N v0_inputSize v0_outputSize v0_tokens v0_steps v0_bitAt n0_input f0_input x N) x1 (0 : Int32) (0 : Int32) v0_fault v0_bits h _ _ _ (hP.sub [0, 1] rfl) (hD.sub [0, 1] (by decide) rfl) hS (lv_sub hl [2, 3, 1, 0] rfl)
set_option maxHeartbeats 4000000 in
set_option maxRecDepth 100000 in
theorem c_Mo_number (l : Launch) (dC : Nat → ClassId) (dI : Nat → Nat → Nat) (cI cB cZ : ClassId) (tS : Nat) (a0 : Nat) (a0_input : Nat) (a0_output : Nat) (a0_told : Nat) (a0_lengths : Nat) (a0_small : Nat) (a0_row : Nat) (a0_tokenLength : Nat) (a0_tokenValue : Nat) (a0_counts : Nat) (a0_smallCounts : Nat) (a0_step : Nat) (a0_stepMore : Nat) (a0_order : Nat) (a0_listed : Nat) (a0_before : Nat) (a0_isSymbol : Nat) (a0_listSize : Nat) (a0_latest : Nat) (sz : Nat) (N : Nat) (v0_inputSize : Int32) (v0_outputSize : Int32) (v0_tokens : Int32) (v0_steps : Int32) (v0_bitAt : Int32) (n0_input : Nat) (f0_input : Nat → Int32) (x1 : Int32) (v0_fault : Int32) (v0_bits : Int32) (x : Int32 × Int32 × Int32) (hf : (g_Mo_number_0 N v0_inputSize n0_input f0_input x1 v0_fault v0_bits) = some x) : Met l y_Mo_number w_Mo_numberS rm_Mo_number (gz_Pc [.ref a0, .int x1] (dC, dI) vwCl [(cI, .int), (cB, .byte), (cZ, .boolean)] tS [(a0, .inr (10, [.int v0_inputSize, .ref a0_input, .int v0_outputSize, .ref a0_output, .ref a0_told, .int v0_bits, .int v0_fault, .ref a0_lengths, .ref a0_small, .ref a0_row, .int v0_tokens, .ref a0_tokenLength, .ref a0_tokenValue, .ref a0_counts, .ref a0_smallCounts, .int v0_steps, .ref a0_step, .ref a0_stepMore, .int v0_bitAt, .ref a0_order, .ref a0_listed, .ref a0_before, .ref a0_isSymbol, .ref a0_listSize, .ref a0_latest])), (a0_input, .inl (cI, n0_input, .inl f0_input))] sz) (va_Qi (fun r (_ : Unit) => r = x.1) (gz_B (dC, dI) vwCl (va_A [(a0, .inr (10, [.int v0_inputSize, .ref a0_input, .int v0_outputSize, .ref a0_output, .ref a0_told, .int v0_bits, .int v0_fault, .ref a0_lengths, .ref a0_small, .ref a0_row, .int v0_tokens, .ref a0_tokenLength, .ref a0_tokenValue, .ref a0_counts, .ref a0_smallCounts, .int v0_steps, .ref a0_step, .ref a0_stepMore, .int v0_bitAt, .ref a0_order, .ref a0_listed, .ref a0_before, .ref a0_isSymbol, .ref a0_listSize, .ref a0_latest])), (a0_input, .inl (cI, n0_input, .inl f0_input))] sz) (e_Mo_number dC dI cI cB cZ a0 a0_input a0_output a0_told a0_lengths a0_small a0_row a0_tokenLength a0_tokenValue a0_counts a0_smallCounts a0_step a0_stepMore a0_order a0_listed a0_before a0_isSymbol a0_listSize a0_latest N v0_inputSize v0_outputSize v0_tokens v0_steps v0_bitAt n0_input f0_input x)) (va_A [(a0, .inr (10, [.int v0_inputSize, .ref a0_input, .int v0_outputSize, .ref a0_output, .ref a0_told, .int v0_bits, .int v0_fault, .ref a0_lengths, .ref a0_small, .ref a0_row, .int v0_tokens, .ref a0_tokenLength, .ref a0_tokenValue, .ref a0_counts, .ref a0_smallCounts, .int v0_steps, .ref a0_step, .ref a0_stepMore, .int v0_bitAt, .ref a0_order, .ref a0_listed, .ref a0_before, .ref a0_isSymbol, .ref a0_listSize, .ref a0_latest])), (a0_input, .inl (cI, n0_input, .inl f0_input))] sz)) 0 0 (va_A [(a0, .inr (10, [.int v0_inputSize, .ref a0_input, .int v0_outputSize, .ref a0_output, .ref a0_told, .int v0_bits, .int v0_fault, .ref a0_lengths, .ref a0_small, .ref a0_row, .int v0_tokens, .ref a0_tokenLength, .ref a0_tokenValue, .ref a0_counts, .ref a0_smallCounts, .int v0_steps, .ref a0_step, .ref a0_stepMore, .int v0_bitAt, .ref a0_order, .ref a0_listed, .ref a0_before, .ref a0_isSymbol, .ref a0_listSize, .ref a0_latest])), (a0_input, .inl (cI, n0_input, .inl f0_input))] sz) := by
  refine Met.ofW (cc := b_Mo_number) (maxL := 4) (ret := (some .int)) (by decide) rfl ?_
  intro p e s m args below meth c s₁ B hml hv
  obtain ⟨rfl, hsz, hP, hK, hD0, hE⟩ := hv
  subst hsz
  have hl := lv_entry ([.ref a0, .int x1]) (n := 4) (Nat.le_of_ble_eq_true rfl)
  rw [lg_entry_eq]
  generalize (lg_sl ([.ref a0, .int x1]) ++ List.replicate (4 - (lg_sl ([.ref a0, .int x1])).length) Slot.unset).toArray = ls at hl ⊢
  have C0 : gz_C p s m _ meth c b_Mo_number 4 (some .int) R_Mo "number" gz_W _ (dC, dI) vwCl [(cI, .int), (cB, .byte), (cZ, .boolean)] tS := ⟨B.exec, B.bytes, B.returns, hml, findClass_of_methodNamed B.named, (name_of_methodNamed B.named B.method).1, fun w h => atoms_spec (ws := w_Mo_numberS) B.pre w (List.mem_cons_of_mem _ h), B.notSynchronized, fun q h => Or.inr h, hK, hE⟩
  exact w_Mo_number_0 C0 a0 a0_input a0_output a0_told a0_lengths a0_small a0_row a0_tokenLength a0_tokenValue a0_counts a0_smallCounts a0_step a0_stepMore a0_order a0_listed a0_before a0_isSymbol a0_listSize a0_latest N v0_inputSize v0_outputSize v0_tokens v0_steps v0_bitAt n0_input f0_input x x1 v0_fault v0_bits hf _ _ _ hP (hD0.self (sz := s.heap.size)) va_S.rf (lv_sub hl [0, 1] rfl)
abbrev rm_Mo_toByte : Room := { frames := 2, cells := 0, slots := 0, locals := 41 }
abbrev e_Mo_toByte (dC : Nat → ClassId) (dI : Nat → Nat → Nat) (cI cB cZ : ClassId) (a0 : Nat) (a0_input : Nat) (a0_output : Nat) (a0_told : Nat) (a0_lengths : Nat) (a0_small : Nat) (a0_row : Nat) (a0_tokenLength : Nat) (a0_tokenValue : Nat) (a0_counts : Nat) (a0_smallCounts : Nat) (a0_step : Nat) (a0_stepMore : Nat) (a0_order : Nat) (a0_listed : Nat) (a0_before : Nat) (a0_isSymbol : Nat) (a0_listSize : Nat) (a0_latest : Nat) (N : Nat) (v0_inputSize : Int32) (v0_outputSize : Int32) (v0_tokens : Int32) (v0_steps : Int32) (v0_bitAt : Int32) (n0_input : Nat) (f0_input : Nat → Int32) (x : Int32 × Int32) (u : Unit) : va_W := [(a0, .inr (10, [.int v0_inputSize, .ref a0_input, .int v0_outputSize, .ref a0_output, .ref a0_told, .int x.2, .int x.1, .ref a0_lengths, .ref a0_small, .ref a0_row, .int v0_tokens, .ref a0_tokenLength, .ref a0_tokenValue, .ref a0_counts, .ref a0_smallCounts, .int v0_steps, .ref a0_step, .ref a0_stepMore, .int v0_bitAt, .ref a0_order, .ref a0_listed, .ref a0_before, .ref a0_isSymbol, .ref a0_listSize, .ref a0_latest])), (a0_input, .inl (cI, n0_input, .inl f0_input))]
abbrev q_Mo_toByte (below : List Frame) (args : Array Value) (s : State) (dC : Nat → ClassId) (dI : Nat → Nat → Nat) (cI cB cZ : ClassId) (A : Nat → Prop) (a0 : Nat) (a0_input : Nat) (a0_output : Nat) (a0_told : Nat) (a0_lengths : Nat) (a0_small : Nat) (a0_row : Nat) (a0_tokenLength : Nat) (a0_tokenValue : Nat) (a0_counts : Nat) (a0_smallCounts : Nat) (a0_step : Nat) (a0_stepMore : Nat) (a0_order : Nat) (a0_listed : Nat) (a0_before : Nat) (a0_isSymbol : Nat) (a0_listSize : Nat) (a0_latest : Nat) (N : Nat) (v0_inputSize : Int32) (v0_outputSize : Int32) (v0_tokens : Int32) (v0_steps : Int32) (v0_bitAt : Int32) (n0_input : Nat) (f0_input : Nat → Int32) (x : Int32 × Int32) : State → Prop := MQ below (va_Qv (fun (_ : Unit) => True) (gz_B (dC, dI) vwCl A (e_Mo_toByte dC dI cI cB cZ a0 a0_input a0_output a0_told a0_lengths a0_small a0_row a0_tokenLength a0_tokenValue a0_counts a0_smallCounts a0_step a0_stepMore a0_order a0_listed a0_before a0_isSymbol a0_listSize a0_latest N v0_inputSize v0_outputSize v0_tokens v0_steps v0_bitAt n0_input f0_input x)) A) args s 0 0 A
def t_Mo_toByte_L1 (p : Program) (l : Launch) (e : Env) (s : State) (m : MethodId) (args : Array Value) (below : List Frame) (meth : Method) (c : Code) (dC : Nat → ClassId) (dI : Nat → Nat → Nat) (cI cB cZ : ClassId) (tS : Nat) (A : Nat → Prop) (a0 : Nat) (a0_input : Nat) (a0_output : Nat) (a0_told : Nat) (a0_lengths : Nat) (a0_small : Nat) (a0_row : Nat) (a0_tokenLength : Nat) (a0_tokenValue : Nat) (a0_counts : Nat) (a0_smallCounts : Nat) (a0_step : Nat) (a0_stepMore : Nat) (a0_order : Nat) (a0_listed : Nat) (a0_before : Nat) (a0_isSymbol : Nat) (a0_listSize : Nat) (a0_latest : Nat) (N : Nat) (v0_inputSize : Int32) (v0_outputSize : Int32) (v0_tokens : Int32) (v0_steps : Int32) (v0_bitAt : Int32) (n0_input : Nat) (f0_input : Nat → Int32) (x : Int32 × Int32) (F : Int32 → Int32 → Option (Int32 × Int32)) : Prop :=
  ∀ (v0_fault : Int32) (v0_bits : Int32), F v0_fault v0_bits = some x → ∀ (H : Heap) (locs : List Loc) (ls : Array Slot), va_P (dC, dI) vwCl [(a0, .inr (10, [.int v0_inputSize, .ref a0_input, .int v0_outputSize, .ref a0_output, .ref a0_told, .int v0_bits, .int v0_fault, .ref a0_lengths, .ref a0_small, .ref a0_row, .int v0_tokens, .ref a0_tokenLength, .ref a0_tokenValue, .ref a0_counts, .ref a0_smallCounts, .int v0_steps, .ref a0_step, .ref a0_stepMore, .int v0_bitAt, .ref a0_order, .ref a0_listed, .ref a0_before, .ref a0_isSymbol, .ref a0_listSize, .ref a0_latest])), (a0_input, .inl (cI, n0_input, .inl f0_input))] H → va_D A [(a0, .inr (10, [.int v0_inputSize, .ref a0_input, .int v0_outputSize, .ref a0_output, .ref a0_told, .int v0_bits, .int v0_fault, .ref a0_lengths, .ref a0_small, .ref a0_row, .int v0_tokens, .ref a0_tokenLength, .ref a0_tokenValue, .ref a0_counts, .ref a0_smallCounts, .int v0_steps, .ref a0_step, .ref a0_stepMore, .int v0_bitAt, .ref a0_order, .ref a0_listed, .ref a0_before, .ref a0_isSymbol, .ref a0_listSize, .ref a0_latest])), (a0_input, .inl (cI, n0_input, .inl f0_input))] → va_S A s.heap H locs → lv_has ls 2 [(0, .ref a0)] → W p l e rm_Mo_toByte s m args below meth c H locs 0 0 (q_Mo_toByte below args s dC dI cI cB cZ A a0 a0_input a0_output a0_told a0_lengths a0_small a0_row a0_tokenLength a0_tokenValue a0_counts a0_smallCounts a0_step a0_stepMore a0_order a0_listed a0_before a0_isSymbol a0_listSize a0_latest N v0_inputSize v0_outputSize v0_tokens v0_steps v0_bitAt n0_input f0_input x) (F0 m 0 ls [])
def g_Mo_toByte_L1 (v0_inputSize : Int32) (n0_input : Nat) (f0_input : Nat → Int32) : Nat → Int32 → Int32 → Option (Int32 × Int32)
  | 0, _, _ => none
  | n + 1, v0_fault, v0_bits => (if (v0_bits - v0_bits / (8 : Int32) * (8 : Int32)) = 0 then some (v0_fault, v0_bits) else (Option.bind (g_Mo_bit_0 v0_inputSize n0_input f0_input v0_fault v0_bits) (fun r2 => (g_Mo_toByte_L1 v0_inputSize n0_input f0_input n r2.2.1 r2.2.2))))
set_option maxHeartbeats 4000000 in
set_option maxRecDepth 100000 in
theorem w_Mo_toByte_L1 {p : Program} {l : Launch} {e : Env} {s : State} {m : MethodId} {args : Array Value} {below : List Frame} {meth : Method} {c : Code} {dC : Nat → ClassId} {dI : Nat → Nat → Nat} {cI cB cZ : ClassId} {tS : Nat} {A : Nat → Prop} (C0 : gz_C p s m args meth c b_Mo_toByte 2 none R_Mo "toByte" gz_W A (dC, dI) vwCl [(cI, .int), (cB, .byte), (cZ, .boolean)] tS) (a0 : Nat) (a0_input : Nat) (a0_output : Nat) (a0_told : Nat) (a0_lengths : Nat) (a0_small : Nat) (a0_row : Nat) (a0_tokenLength : Nat) (a0_tokenValue : Nat) (a0_counts : Nat) (a0_smallCounts : Nat) (a0_step : Nat) (a0_stepMore : Nat) (a0_order : Nat) (a0_listed : Nat) (a0_before : Nat) (a0_isSymbol : Nat) (a0_listSize : Nat) (a0_latest : Nat) (N : Nat) (v0_inputSize : Int32) (v0_outputSize : Int32) (v0_tokens : Int32) (v0_steps : Int32) (v0_bitAt : Int32) (n0_input : Nat) (f0_input : Nat → Int32) (x : Int32 × Int32) : ∀ n : Nat, t_Mo_toByte_L1 p l e s m args below meth c dC dI cI cB cZ tS A a0 a0_input a0_output a0_told a0_lengths a0_small a0_row a0_tokenLength a0_tokenValue a0_counts a0_smallCounts a0_step a0_stepMore a0_order a0_listed a0_before a0_isSymbol a0_listSize a0_latest N v0_inputSize v0_outputSize v0_tokens v0_steps v0_bitAt n0_input f0_input x (g_Mo_toByte_L1 v0_inputSize n0_input f0_input n) := by
  obtain ⟨hx, hb, hr, hml, hown, hin0, hts, hlocks, hA, hK, hE⟩ := id C0
  intro n
  induction n with
  | zero =>
    intro v0_fault v0_bits h
    cases h
  | succ n ih =>
    intro v0_fault v0_bits h H locs ls hP hD hS hl
    rw [g_Mo_toByte_L1] at h
    refine lv_aload_n hx hb d_Mo_toByte_0 rfl (lv_at hl 0 rfl) ?_
    refine va_get (D := (dC, dI)) (ci := 10) (v := .int v0_bits) (C := R_Mo) (T := F_Mo) (N := 25) hx hb hts in_Mo hown hK hP 0 rfl rfl 5 (by decide) (hts _ kw_490) (fun _ h9 => h9) rfl d_Mo_toByte_1 ?_
    refine lv_bipush (v := (8 : Int32)) hx hb d_Mo_toByte_4 (by decide) ?_
    refine lv_irem hx hb d_Mo_toByte_6 (by decide) ?_
    refine lv_if_eq (tgt := 18) hx hb d_Mo_toByte_7 (by decide) (fun c1 => ?_) (fun c1 => ?_)
    · have h := gz_t h c1
      obtain rfl := Option.some.inj h
      exact W.vret hx hb hr (fun t ht hW => ⟨⟨(), rfl, trivial, by rw [ht]; exact hP.sub [0, 1] rfl, hD.sub [0, 1] (by decide) rfl⟩, hS.F ht⟩) hS.2.2 d_Mo_toByte_18
    · have h := gz_f h c1
      refine lv_aload_n hx hb d_Mo_toByte_10 rfl (lv_at hl 0 rfl) ?_
      obtain ⟨r2, hcr2, h⟩ := gz_b h
      refine gz_ci hP hD hS hA [0, 1] [] (wr := []) rfl rfl (by decide) (by decide) (va_runV (As := []) (rest := []) ⟨hx, hb, hml, hown, hts⟩ (c_Mo_bit l dC dI cI cB cZ tS a0 a0_input a0_output a0_told a0_lengths a0_small a0_row a0_tokenLength a0_tokenValue a0_counts a0_smallCounts a0_step a0_stepMore a0_order a0_listed a0_before a0_isSymbol a0_listSize a0_latest H.size N v0_inputSize v0_outputSize v0_tokens v0_steps v0_bitAt n0_input f0_input v0_fault v0_bits r2 hcr2) (cwV 0 hts (gz_gV kw_497 kw_498 kw_499 kw_492 kw_496) rfl rfl rfl (by decide +kernel) ⟨(Nat.le_of_ble_eq_true rfl), (Nat.le_of_ble_eq_true rfl)⟩) (gz_preV hK hE hP hD hS hA [0, 1] (by decide) rfl 0 10 rfl rfl) rfl rfl hl.1 rfl (lv_room (Nat.le_of_ble_eq_true rfl)) d_Mo_toByte_11 ⟨(Nat.le_of_ble_eq_true rfl), (Nat.le_of_ble_eq_true rfl)⟩) (fun _ H locs hP hD hS => ?_)
      have hP : va_P (dC, dI) vwCl [(a0, .inr (10, [.int v0_inputSize, .ref a0_input, .int v0_outputSize, .ref a0_output, .ref a0_told, .int r2.2.2, .int r2.2.1, .ref a0_lengths, .ref a0_small, .ref a0_row, .int v0_tokens, .ref a0_tokenLength, .ref a0_tokenValue, .ref a0_counts, .ref a0_smallCounts, .int v0_steps, .ref a0_step, .ref a0_stepMore, .int v0_bitAt, .ref a0_order, .ref a0_listed, .ref a0_before, .ref a0_isSymbol, .ref a0_listSize, .ref a0_latest])), (a0_input, .inl (cI, n0_input, .inl f0_input))] H := hP
      have hD : va_D A [(a0, .inr (10, [.int v0_inputSize, .ref a0_input, .int v0_outputSize, .ref a0_output, .ref a0_told, .int r2.2.2, .int r2.2.1, .ref a0_lengths, .ref a0_small, .ref a0_row, .int v0_tokens, .ref a0_tokenLength, .ref a0_tokenValue, .ref a0_counts, .ref a0_smallCounts, .int v0_steps, .ref a0_step, .ref a0_stepMore, .int v0_bitAt, .ref a0_order, .ref a0_listed, .ref a0_before, .ref a0_isSymbol, .ref a0_listSize, .ref a0_latest])), (a0_input, .inl (cI, n0_input, .inl f0_input))] := hD
      refine lv_istore_n (lv' := [(1, .int r2.1), (0, .ref a0)]) hx hb d_Mo_toByte_14 rfl hl (by decide) rfl (fun ls hl => ?_)
      refine lv_goto (tgt := 0) hx hb d_Mo_toByte_15 (by decide) ?_
      exact ih r2.2.1 r2.2.2 h _ _ _ (hP.sub [0, 1] rfl) (hD.sub [0, 1] (by decide) rfl) hS (lv_sub hl [1] rfl)
set_option maxHeartbeats 4000000 in
set_option maxRecDepth 100000 in
theorem c_Mo_toByte (l : Launch) (dC : Nat → ClassId) (dI : Nat → Nat → Nat) (cI cB cZ : ClassId) (tS : Nat) (a0 : Nat) (a0_input : Nat) (a0_output : Nat) (a0_told : Nat) (a0_lengths : Nat) (a0_small : Nat) (a0_row : Nat) (a0_tokenLength : Nat) (a0_tokenValue : Nat) (a0_counts : Nat) (a0_smallCounts : Nat) (a0_step : Nat) (a0_stepMore : Nat) (a0_order : Nat) (a0_listed : Nat) (a0_before : Nat) (a0_isSymbol : Nat) (a0_listSize : Nat) (a0_latest : Nat) (sz : Nat) (N : Nat) (v0_inputSize : Int32) (v0_outputSize : Int32) (v0_tokens : Int32) (v0_steps : Int32) (v0_bitAt : Int32) (n0_input : Nat) (f0_input : Nat → Int32) (v0_fault : Int32) (v0_bits : Int32) (x : Int32 × Int32) (hf : (g_Mo_toByte_L1 v0_inputSize n0_input f0_input N v0_fault v0_bits) = some x) : Met l y_Mo_toByte w_Mo_toByteS rm_Mo_toByte (gz_Pc [.ref a0] (dC, dI) vwCl [(cI, .int), (cB, .byte), (cZ, .boolean)] tS [(a0, .inr (10, [.int v0_inputSize, .ref a0_input, .int v0_outputSize, .ref a0_output, .ref a0_told, .int v0_bits, .int v0_fault, .ref a0_lengths, .ref a0_small, .ref a0_row, .int v0_tokens, .ref a0_tokenLength, .ref a0_tokenValue, .ref a0_counts, .ref a0_smallCounts, .int v0_steps, .ref a0_step, .ref a0_stepMore, .int v0_bitAt, .ref a0_order, .ref a0_listed, .ref a0_before, .ref a0_isSymbol, .ref a0_listSize, .ref a0_latest])), (a0_input, .inl (cI, n0_input, .inl f0_input))] sz) (va_Qv (fun (_ : Unit) => True) (gz_B (dC, dI) vwCl (va_A [(a0, .inr (10, [.int v0_inputSize, .ref a0_input, .int v0_outputSize, .ref a0_output, .ref a0_told, .int v0_bits, .int v0_fault, .ref a0_lengths, .ref a0_small, .ref a0_row, .int v0_tokens, .ref a0_tokenLength, .ref a0_tokenValue, .ref a0_counts, .ref a0_smallCounts, .int v0_steps, .ref a0_step, .ref a0_stepMore, .int v0_bitAt, .ref a0_order, .ref a0_listed, .ref a0_before, .ref a0_isSymbol, .ref a0_listSize, .ref a0_latest])), (a0_input, .inl (cI, n0_input, .inl f0_input))] sz) (e_Mo_toByte dC dI cI cB cZ a0 a0_input a0_output a0_told a0_lengths a0_small a0_row a0_tokenLength a0_tokenValue a0_counts a0_smallCounts a0_step a0_stepMore a0_order a0_listed a0_before a0_isSymbol a0_listSize a0_latest N v0_inputSize v0_outputSize v0_tokens v0_steps v0_bitAt n0_input f0_input x)) (va_A [(a0, .inr (10, [.int v0_inputSize, .ref a0_input, .int v0_outputSize, .ref a0_output, .ref a0_told, .int v0_bits, .int v0_fault, .ref a0_lengths, .ref a0_small, .ref a0_row, .int v0_tokens, .ref a0_tokenLength, .ref a0_tokenValue, .ref a0_counts, .ref a0_smallCounts, .int v0_steps, .ref a0_step, .ref a0_stepMore, .int v0_bitAt, .ref a0_order, .ref a0_listed, .ref a0_before, .ref a0_isSymbol, .ref a0_listSize, .ref a0_latest])), (a0_input, .inl (cI, n0_input, .inl f0_input))] sz)) 0 0 (va_A [(a0, .inr (10, [.int v0_inputSize, .ref a0_input, .int v0_outputSize, .ref a0_output, .ref a0_told, .int v0_bits, .int v0_fault, .ref a0_lengths, .ref a0_small, .ref a0_row, .int v0_tokens, .ref a0_tokenLength, .ref a0_tokenValue, .ref a0_counts, .ref a0_smallCounts, .int v0_steps, .ref a0_step, .ref a0_stepMore, .int v0_bitAt, .ref a0_order, .ref a0_listed, .ref a0_before, .ref a0_isSymbol, .ref a0_listSize, .ref a0_latest])), (a0_input, .inl (cI, n0_input, .inl f0_input))] sz) := by
  refine Met.ofW (cc := b_Mo_toByte) (maxL := 2) (ret := none) (by decide) rfl ?_
  intro p e s m args below meth c s₁ B hml hv
  obtain ⟨rfl, hsz, hP, hK, hD0, hE⟩ := hv
  subst hsz
  have hl := lv_entry ([.ref a0]) (n := 2) (Nat.le_of_ble_eq_true rfl)
  rw [lg_entry_eq]
  generalize (lg_sl ([.ref a0]) ++ List.replicate (2 - (lg_sl ([.ref a0])).length) Slot.unset).toArray = ls at hl ⊢
  have C0 : gz_C p s m _ meth c b_Mo_toByte 2 none R_Mo "toByte" gz_W _ (dC, dI) vwCl [(cI, .int), (cB, .byte), (cZ, .boolean)] tS := ⟨B.exec, B.bytes, B.returns, hml, findClass_of_methodNamed B.named, (name_of_methodNamed B.named B.method).1, fun w h => atoms_spec (ws := w_Mo_toByteS) B.pre w (List.mem_cons_of_mem _ h), B.notSynchronized, fun q h => Or.inr h, hK, hE⟩
  exact w_Mo_toByte_L1 C0 a0 a0_input a0_output a0_told a0_lengths a0_small a0_row a0_tokenLength a0_tokenValue a0_counts a0_smallCounts a0_step a0_stepMore a0_order a0_listed a0_before a0_isSymbol a0_listSize a0_latest N v0_inputSize v0_outputSize v0_tokens v0_steps v0_bitAt n0_input f0_input x N v0_fault v0_bits hf _ _ _ hP (hD0.self (sz := s.heap.size)) va_S.rf (lv_sub hl [0] rfl)
abbrev rm_Mo_make : Room := { frames := 1, cells := 0, slots := 0, locals := 21 }
abbrev e_Mo_make (dC : Nat → ClassId) (dI : Nat → Nat → Nat) (cI cB cZ : ClassId) (a0 : Nat) (a0_input : Nat) (a0_output : Nat) (a0_told : Nat) (a0_lengths : Nat) (a0_small : Nat) (a0_row : Nat) (a0_tokenLength : Nat) (a0_tokenValue : Nat) (a0_counts : Nat) (a0_smallCounts : Nat) (a0_step : Nat) (a0_stepMore : Nat) (a0_order : Nat) (a0_listed : Nat) (a0_before : Nat) (a0_isSymbol : Nat) (a0_listSize : Nat) (a0_latest : Nat) (N : Nat) (v0_inputSize : Int32) (v0_bits : Int32) (v0_tokens : Int32) (v0_steps : Int32) (v0_bitAt : Int32) (n0_output : Nat) (x : Int32 × (Nat → Int32) × Int32) (u : Unit) : va_W := [(a0, .inr (10, [.int v0_inputSize, .ref a0_input, .int x.2.2, .ref a0_output, .ref a0_told, .int v0_bits, .int x.1, .ref a0_lengths, .ref a0_small, .ref a0_row, .int v0_tokens, .ref a0_tokenLength, .ref a0_tokenValue, .ref a0_counts, .ref a0_smallCounts, .int v0_steps, .ref a0_step, .ref a0_stepMore, .int v0_bitAt, .ref a0_order, .ref a0_listed, .ref a0_before, .ref a0_isSymbol, .ref a0_listSize, .ref a0_latest])), (a0_output, .inl (cI, n0_output, .inl x.2.1))]
abbrev q_Mo_make (below : List Frame) (args : Array Value) (s : State) (dC : Nat → ClassId) (dI : Nat → Nat → Nat) (cI cB cZ : ClassId) (A : Nat → Prop) (a0 : Nat) (a0_input : Nat) (a0_output : Nat) (a0_told : Nat) (a0_lengths : Nat) (a0_small : Nat) (a0_row : Nat) (a0_tokenLength : Nat) (a0_tokenValue : Nat) (a0_counts : Nat) (a0_smallCounts : Nat) (a0_step : Nat) (a0_stepMore : Nat) (a0_order : Nat) (a0_listed : Nat) (a0_before : Nat) (a0_isSymbol : Nat) (a0_listSize : Nat) (a0_latest : Nat) (N : Nat) (v0_inputSize : Int32) (v0_bits : Int32) (v0_tokens : Int32) (v0_steps : Int32) (v0_bitAt : Int32) (n0_output : Nat) (x : Int32 × (Nat → Int32) × Int32) : State → Prop := MQ below (va_Qv (fun (_ : Unit) => True) (gz_B (dC, dI) vwCl A (e_Mo_make dC dI cI cB cZ a0 a0_input a0_output a0_told a0_lengths a0_small a0_row a0_tokenLength a0_tokenValue a0_counts a0_smallCounts a0_step a0_stepMore a0_order a0_listed a0_before a0_isSymbol a0_listSize a0_latest N v0_inputSize v0_bits v0_tokens v0_steps v0_bitAt n0_output x)) A) args s 0 0 A
def t_Mo_make_J1 (p : Program) (l : Launch) (e : Env) (s : State) (m : MethodId) (args : Array Value) (below : List Frame) (meth : Method) (c : Code) (dC : Nat → ClassId) (dI : Nat → Nat → Nat) (cI cB cZ : ClassId) (tS : Nat) (A : Nat → Prop) (a0 : Nat) (a0_input : Nat) (a0_output : Nat) (a0_told : Nat) (a0_lengths : Nat) (a0_small : Nat) (a0_row : Nat) (a0_tokenLength : Nat) (a0_tokenValue : Nat) (a0_counts : Nat) (a0_smallCounts : Nat) (a0_step : Nat) (a0_stepMore : Nat) (a0_order : Nat) (a0_listed : Nat) (a0_before : Nat) (a0_isSymbol : Nat) (a0_listSize : Nat) (a0_latest : Nat) (N : Nat) (v0_inputSize : Int32) (v0_bits : Int32) (v0_tokens : Int32) (v0_steps : Int32) (v0_bitAt : Int32) (n0_output : Nat) (x : Int32 × (Nat → Int32) × Int32) (F : Int32 → Int32 → (Nat → Int32) → Int32 → Option (Int32 × (Nat → Int32) × Int32)) : Prop :=
  ∀ (x1 : Int32) (v0_fault : Int32) (f0_output : Nat → Int32) (v0_outputSize : Int32), F x1 v0_fault f0_output v0_outputSize = some x → ∀ (H : Heap) (locs : List Loc) (ls : Array Slot), va_P (dC, dI) vwCl [(a0, .inr (10, [.int v0_inputSize, .ref a0_input, .int v0_outputSize, .ref a0_output, .ref a0_told, .int v0_bits, .int v0_fault, .ref a0_lengths, .ref a0_small, .ref a0_row, .int v0_tokens, .ref a0_tokenLength, .ref a0_tokenValue, .ref a0_counts, .ref a0_smallCounts, .int v0_steps, .ref a0_step, .ref a0_stepMore, .int v0_bitAt, .ref a0_order, .ref a0_listed, .ref a0_before, .ref a0_isSymbol, .ref a0_listSize, .ref a0_latest])), (a0_output, .inl (cI, n0_output, .inl f0_output))] H → va_D A [(a0, .inr (10, [.int v0_inputSize, .ref a0_input, .int v0_outputSize, .ref a0_output, .ref a0_told, .int v0_bits, .int v0_fault, .ref a0_lengths, .ref a0_small, .ref a0_row, .int v0_tokens, .ref a0_tokenLength, .ref a0_tokenValue, .ref a0_counts, .ref a0_smallCounts, .int v0_steps, .ref a0_step, .ref a0_stepMore, .int v0_bitAt, .ref a0_order, .ref a0_listed, .ref a0_before, .ref a0_isSymbol, .ref a0_listSize, .ref a0_latest])), (a0_output, .inl (cI, n0_output, .inl f0_output))] → va_S A s.heap H locs → lv_has ls 2 [(0, .ref a0), (1, .int x1)] → W p l e rm_Mo_make s m args below meth c H locs 0 0 (q_Mo_make below args s dC dI cI cB cZ A a0 a0_input a0_output a0_told a0_lengths a0_small a0_row a0_tokenLength a0_tokenValue a0_counts a0_smallCounts a0_step a0_stepMore a0_order a0_listed a0_before a0_isSymbol a0_listSize a0_latest N v0_inputSize v0_bits v0_tokens v0_steps v0_bitAt n0_output x) (F0 m 23 ls [])
def t_Mo_make_0 (p : Program) (l : Launch) (e : Env) (s : State) (m : MethodId) (args : Array Value) (below : List Frame) (meth : Method) (c : Code) (dC : Nat → ClassId) (dI : Nat → Nat → Nat) (cI cB cZ : ClassId) (tS : Nat) (A : Nat → Prop) (a0 : Nat) (a0_input : Nat) (a0_output : Nat) (a0_told : Nat) (a0_lengths : Nat) (a0_small : Nat) (a0_row : Nat) (a0_tokenLength : Nat) (a0_tokenValue : Nat) (a0_counts : Nat) (a0_smallCounts : Nat) (a0_step : Nat) (a0_stepMore : Nat) (a0_order : Nat) (a0_listed : Nat) (a0_before : Nat) (a0_isSymbol : Nat) (a0_listSize : Nat) (a0_latest : Nat) (N : Nat) (v0_inputSize : Int32) (v0_bits : Int32) (v0_tokens : Int32) (v0_steps : Int32) (v0_bitAt : Int32) (n0_output : Nat) (x : Int32 × (Nat → Int32) × Int32) (F : Int32 → Int32 → (Nat → Int32) → Int32 → Option (Int32 × (Nat → Int32) × Int32)) : Prop :=
  ∀ (x1 : Int32) (v0_fault : Int32) (f0_output : Nat → Int32) (v0_outputSize : Int32), F x1 v0_fault f0_output v0_outputSize = some x → ∀ (H : Heap) (locs : List Loc) (ls : Array Slot), va_P (dC, dI) vwCl [(a0, .inr (10, [.int v0_inputSize, .ref a0_input, .int v0_outputSize, .ref a0_output, .ref a0_told, .int v0_bits, .int v0_fault, .ref a0_lengths, .ref a0_small, .ref a0_row, .int v0_tokens, .ref a0_tokenLength, .ref a0_tokenValue, .ref a0_counts, .ref a0_smallCounts, .int v0_steps, .ref a0_step, .ref a0_stepMore, .int v0_bitAt, .ref a0_order, .ref a0_listed, .ref a0_before, .ref a0_isSymbol, .ref a0_listSize, .ref a0_latest])), (a0_output, .inl (cI, n0_output, .inl f0_output))] H → va_D A [(a0, .inr (10, [.int v0_inputSize, .ref a0_input, .int v0_outputSize, .ref a0_output, .ref a0_told, .int v0_bits, .int v0_fault, .ref a0_lengths, .ref a0_small, .ref a0_row, .int v0_tokens, .ref a0_tokenLength, .ref a0_tokenValue, .ref a0_counts, .ref a0_smallCounts, .int v0_steps, .ref a0_step, .ref a0_stepMore, .int v0_bitAt, .ref a0_order, .ref a0_listed, .ref a0_before, .ref a0_isSymbol, .ref a0_listSize, .ref a0_latest])), (a0_output, .inl (cI, n0_output, .inl f0_output))] → va_S A s.heap H locs → lv_has ls 2 [(0, .ref a0), (1, .int x1)] → W p l e rm_Mo_make s m args below meth c H locs 0 0 (q_Mo_make below args s dC dI cI cB cZ A a0 a0_input a0_output a0_told a0_lengths a0_small a0_row a0_tokenLength a0_tokenValue a0_counts a0_smallCounts a0_step a0_stepMore a0_order a0_listed a0_before a0_isSymbol a0_listSize a0_latest N v0_inputSize v0_bits v0_tokens v0_steps v0_bitAt n0_output x) (F0 m 0 ls [])
def g_Mo_make_J1 (n0_output : Nat) (x1 : Int32) (v0_fault : Int32) (f0_output : Nat → Int32) (v0_outputSize : Int32) : Option (Int32 × (Nat → Int32) × Int32) := (if v0_fault = 0 then (if v0_outputSize < 0 ∨ n0_output ≤ v0_outputSize.toNatClampNeg then none else some (v0_fault, upd f0_output v0_outputSize.toNatClampNeg x1, v0_outputSize + (1 : Int32))) else some (v0_fault, f0_output, v0_outputSize))
set_option maxHeartbeats 4000000 in
set_option maxRecDepth 100000 in
theorem w_Mo_make_J1 {p : Program} {l : Launch} {e : Env} {s : State} {m : MethodId} {args : Array Value} {below : List Frame} {meth : Method} {c : Code} {dC : Nat → ClassId} {dI : Nat → Nat → Nat} {cI cB cZ : ClassId} {tS : Nat} {A : Nat → Prop} (C0 : gz_C p s m args meth c b_Mo_make 2 none R_Mo "make" gz_W A (dC, dI) vwCl [(cI, .int), (cB, .byte), (cZ, .boolean)] tS) (a0 : Nat) (a0_input : Nat) (a0_output : Nat) (a0_told : Nat) (a0_lengths : Nat) (a0_small : Nat) (a0_row : Nat) (a0_tokenLength : Nat) (a0_tokenValue : Nat) (a0_counts : Nat) (a0_smallCounts : Nat) (a0_step : Nat) (a0_stepMore : Nat) (a0_order : Nat) (a0_listed : Nat) (a0_before : Nat) (a0_isSymbol : Nat) (a0_listSize : Nat) (a0_latest : Nat) (N : Nat) (v0_inputSize : Int32) (v0_bits : Int32) (v0_tokens : Int32) (v0_steps : Int32) (v0_bitAt : Int32) (n0_output : Nat) (x : Int32 × (Nat → Int32) × Int32) : t_Mo_make_J1 p l e s m args below meth c dC dI cI cB cZ tS A a0 a0_input a0_output a0_told a0_lengths a0_small a0_row a0_tokenLength a0_tokenValue a0_counts a0_smallCounts a0_step a0_stepMore a0_order a0_listed a0_before a0_isSymbol a0_listSize a0_latest N v0_inputSize v0_bits v0_tokens v0_steps v0_bitAt n0_output x (g_Mo_make_J1 n0_output) := by
  obtain ⟨hx, hb, hr, hml, hown, hin0, hts, hlocks, hA, hK, hE⟩ := id C0
  intro x1 v0_fault f0_output v0_outputSize h H locs ls hP hD hS hl
  rw [g_Mo_make_J1] at h
  refine lv_aload_n hx hb d_Mo_make_23 rfl (lv_at hl 0 rfl) ?_
  refine va_get (D := (dC, dI)) (ci := 10) (v := .int v0_fault) (C := R_Mo) (T := F_Mo) (N := 25) hx hb hts in_Mo hown hK hP 0 rfl rfl 6 (by decide) (hts _ kw_489) (fun _ h9 => h9) rfl d_Mo_make_24 ?_
  refine lv_if_ne (tgt := 50) hx hb d_Mo_make_27 (by decide) (fun c4 => ?_) (fun c4 => ?_)
  · have h := gz_f h c4
    obtain rfl := Option.some.inj h
    exact W.vret hx hb hr (fun t ht hW => ⟨⟨(), rfl, trivial, by rw [ht]; exact hP.sub [0, 1] rfl, hD.sub [0, 1] (by decide) rfl⟩, hS.F ht⟩) hS.2.2 d_Mo_make_50
  · have h := gz_t h c4
    refine lv_aload_n hx hb d_Mo_make_30 rfl (lv_at hl 0 rfl) ?_
    refine va_get (D := (dC, dI)) (ci := 10) (v := .ref a0_output) (C := R_Mo) (T := F_Mo) (N := 25) hx hb hts in_Mo hown hK hP 0 rfl rfl 3 (by decide) (hts _ kw_467) (fun _ h9 => h9) rfl d_Mo_make_31 ?_
    refine lv_aload_n hx hb d_Mo_make_34 rfl (lv_at hl 0 rfl) ?_
    refine va_get (D := (dC, dI)) (ci := 10) (v := .int v0_outputSize) (C := R_Mo) (T := F_Mo) (N := 25) hx hb hts in_Mo hown hK hP 0 rfl rfl 2 (by decide) (hts _ kw_488) (fun _ h9 => h9) rfl d_Mo_make_35 ?_
    refine lv_iload_n hx hb d_Mo_make_38 rfl (lv_at hl 1 rfl) ?_
    obtain ⟨hi5, h⟩ := gz_n h
    refine va_iast hx hb hK hP hD hS 1 0 rfl rfl hi5 d_Mo_make_39 (fun H locs hP hD hS => ?_)
    have hP : va_P (dC, dI) vwCl [(a0, .inr (10, [.int v0_inputSize, .ref a0_input, .int v0_outputSize, .ref a0_output, .ref a0_told, .int v0_bits, .int v0_fault, .ref a0_lengths, .ref a0_small, .ref a0_row, .int v0_tokens, .ref a0_tokenLength, .ref a0_tokenValue, .ref a0_counts, .ref a0_smallCounts, .int v0_steps, .ref a0_step, .ref a0_stepMore, .int v0_bitAt, .ref a0_order, .ref a0_listed, .ref a0_before, .ref a0_isSymbol, .ref a0_listSize, .ref a0_latest])), (a0_output, .inl (cI, n0_output, .inl (upd f0_output v0_outputSize.toNatClampNeg x1)))] H := hP
    have hD : va_D A [(a0, .inr (10, [.int v0_inputSize, .ref a0_input, .int v0_outputSize, .ref a0_output, .ref a0_told, .int v0_bits, .int v0_fault, .ref a0_lengths, .ref a0_small, .ref a0_row, .int v0_tokens, .ref a0_tokenLength, .ref a0_tokenValue, .ref a0_counts, .ref a0_smallCounts, .int v0_steps, .ref a0_step, .ref a0_stepMore, .int v0_bitAt, .ref a0_order, .ref a0_listed, .ref a0_before, .ref a0_isSymbol, .ref a0_listSize, .ref a0_latest])), (a0_output, .inl (cI, n0_output, .inl (upd f0_output v0_outputSize.toNatClampNeg x1)))] := hD
    refine lv_aload_n hx hb d_Mo_make_40 rfl (lv_at hl 0 rfl) ?_
    refine lv_dup hx hb d_Mo_make_41 rfl ?_
    refine va_get (D := (dC, dI)) (ci := 10) (v := .int v0_outputSize) (C := R_Mo) (T := F_Mo) (N := 25) hx hb hts in_Mo hown hK hP 0 rfl rfl 2 (by decide) (hts _ kw_488) (fun _ h9 => h9) rfl d_Mo_make_42 ?_
    refine lv_iconst (v := (1 : Int32)) hx hb d_Mo_make_45 (by decide) ?_
    refine lv_iadd hx hb d_Mo_make_46 ?_
    refine va_put (D := (dC, dI)) (ci := 10) (v := .int (v0_outputSize + (1 : Int32))) (ty := .int) (C := R_Mo) (T := F_Mo) (N := 25) hx hb hts in_Mo t_Mo t_Mo_ok n_Mo hown hK hP hD hS 0 rfl rfl 2 (by decide) (hts _ kw_488) (fun _ h9 => h9) rfl (by decide +kernel) rfl rfl (Nat.le_of_ble_eq_true rfl) d_Mo_make_47 (fun H locs hP hD hS => ?_)
    have hP : va_P (dC, dI) vwCl [(a0, .inr (10, [.int v0_inputSize, .ref a0_input, .int (v0_outputSize + (1 : Int32)), .ref a0_output, .ref a0_told, .int v0_bits, .int v0_fault, .ref a0_lengths, .ref a0_small, .ref a0_row, .int v0_tokens, .ref a0_tokenLength, .ref a0_tokenValue, .ref a0_counts, .ref a0_smallCounts, .int v0_steps, .ref a0_step, .ref a0_stepMore, .int v0_bitAt, .ref a0_order, .ref a0_listed, .ref a0_before, .ref a0_isSymbol, .ref a0_listSize, .ref a0_latest])), (a0_output, .inl (cI, n0_output, .inl (upd f0_output v0_outputSize.toNatClampNeg x1)))] H := hP
    have hD : va_D A [(a0, .inr (10, [.int v0_inputSize, .ref a0_input, .int (v0_outputSize + (1 : Int32)), .ref a0_output, .ref a0_told, .int v0_bits, .int v0_fault, .ref a0_lengths, .ref a0_small, .ref a0_row, .int v0_tokens, .ref a0_tokenLength, .ref a0_tokenValue, .ref a0_counts, .ref a0_smallCounts, .int v0_steps, .ref a0_step, .ref a0_stepMore, .int v0_bitAt, .ref a0_order, .ref a0_listed, .ref a0_before, .ref a0_isSymbol, .ref a0_listSize, .ref a0_latest])), (a0_output, .inl (cI, n0_output, .inl (upd f0_output v0_outputSize.toNatClampNeg x1)))] := hD
    obtain rfl := Option.some.inj h
    exact W.vret hx hb hr (fun t ht hW => ⟨⟨(), rfl, trivial, by rw [ht]; exact hP.sub [0, 1] rfl, hD.sub [0, 1] (by decide) rfl⟩, hS.F ht⟩) hS.2.2 d_Mo_make_50
def g_Mo_make_0 (n0_output : Nat) (x1 : Int32) (v0_fault : Int32) (f0_output : Nat → Int32) (v0_outputSize : Int32) : Option (Int32 × (Nat → Int32) × Int32) := (if v0_fault = 0 then (if v0_outputSize = (8192 : Int32) then (Option.bind (g_Mo_blame_0 (10 : Int32) v0_fault) (fun r3 => (g_Mo_make_J1 n0_output x1 r3 f0_output v0_outputSize))) else (g_Mo_make_J1 n0_output x1 v0_fault f0_output v0_outputSize)) else (g_Mo_make_J1 n0_output x1 v0_fault f0_output v0_outputSize))
set_option maxHeartbeats 4000000 in
set_option maxRecDepth 100000 in
theorem w_Mo_make_0 {p : Program} {l : Launch} {e : Env} {s : State} {m : MethodId} {args : Array Value} {below : List Frame} {meth : Method} {c : Code} {dC : Nat → ClassId} {dI : Nat → Nat → Nat} {cI cB cZ : ClassId} {tS : Nat} {A : Nat → Prop} (C0 : gz_C p s m args meth c b_Mo_make 2 none R_Mo "make" gz_W A (dC, dI) vwCl [(cI, .int), (cB, .byte), (cZ, .boolean)] tS) (a0 : Nat) (a0_input : Nat) (a0_output : Nat) (a0_told : Nat) (a0_lengths : Nat) (a0_small : Nat) (a0_row : Nat) (a0_tokenLength : Nat) (a0_tokenValue : Nat) (a0_counts : Nat) (a0_smallCounts : Nat) (a0_step : Nat) (a0_stepMore : Nat) (a0_order : Nat) (a0_listed : Nat) (a0_before : Nat) (a0_isSymbol : Nat) (a0_listSize : Nat) (a0_latest : Nat) (N : Nat) (v0_inputSize : Int32) (v0_bits : Int32) (v0_tokens : Int32) (v0_steps : Int32) (v0_bitAt : Int32) (n0_output : Nat) (x : Int32 × (Nat → Int32) × Int32) : t_Mo_make_0 p l e s m args below meth c dC dI cI cB cZ tS A a0 a0_input a0_output a0_told a0_lengths a0_small a0_row a0_tokenLength a0_tokenValue a0_counts a0_smallCounts a0_step a0_stepMore a0_order a0_listed a0_before a0_isSymbol a0_listSize a0_latest N v0_inputSize v0_bits v0_tokens v0_steps v0_bitAt n0_output x (g_Mo_make_0 n0_output) := by
  obtain ⟨hx, hb, hr, hml, hown, hin0, hts, hlocks, hA, hK, hE⟩ := id C0
  intro x1 v0_fault f0_output v0_outputSize h H locs ls hP hD hS hl
  rw [g_Mo_make_0] at h
  refine lv_aload_n hx hb d_Mo_make_0 rfl (lv_at hl 0 rfl) ?_
  refine va_get (D := (dC, dI)) (ci := 10) (v := .int v0_fault) (C := R_Mo) (T := F_Mo) (N := 25) hx hb hts in_Mo hown hK hP 0 rfl rfl 6 (by decide) (hts _ kw_489) (fun _ h9 => h9) rfl d_Mo_make_1 ?_
  refine lv_if_ne (tgt := 23) hx hb d_Mo_make_4 (by decide) (fun c1 => ?_) (fun c1 => ?_)
  · have h := gz_f h c1
    exact (w_Mo_make_J1 C0 a0 a0_input a0_output a0_told a0_lengths a0_small a0_row a0_tokenLength a0_tokenValue a0_counts a0_smallCounts a0_step a0_stepMore a0_order a0_listed a0_before a0_isSymbol a0_listSize a0_latest N v0_inputSize v0_bits v0_tokens v0_steps v0_bitAt n0_output x) x1 v0_fault f0_output v0_outputSize h _ _ _ (hP.sub [0, 1] rfl) (hD.sub [0, 1] (by decide) rfl) hS (lv_sub hl [0, 1] rfl)
  · have h := gz_t h c1
    refine lv_aload_n hx hb d_Mo_make_7 rfl (lv_at hl 0 rfl) ?_
    refine va_get (D := (dC, dI)) (ci := 10) (v := .int v0_outputSize) (C := R_Mo) (T := F_Mo) (N := 25) hx hb hts in_Mo hown hK hP 0 rfl rfl 2 (by decide) (hts _ kw_488) (fun _ h9 => h9) rfl d_Mo_make_8 ?_
    refine lv_sipush (v := (8192 : Int32)) hx hb d_Mo_make_11 (by decide) ?_
    refine lv_icmp_ne (tgt := 23) hx hb d_Mo_make_14 (by decide) (fun c2 => ?_) (fun c2 => ?_)
    · have h := gz_f h c2
      exact (w_Mo_make_J1 C0 a0 a0_input a0_output a0_told a0_lengths a0_small a0_row a0_tokenLength a0_tokenValue a0_counts a0_smallCounts a0_step a0_stepMore a0_order a0_listed a0_before a0_isSymbol a0_listSize a0_latest N v0_inputSize v0_bits v0_tokens v0_steps v0_bitAt n0_output x) x1 v0_fault f0_output v0_outputSize h _ _ _ (hP.sub [0, 1] rfl) (hD.sub [0, 1] (by decide) rfl) hS (lv_sub hl [0, 1] rfl)
    · have h := gz_t h c2
      refine lv_aload_n hx hb d_Mo_make_17 rfl (lv_at hl 0 rfl) ?_
      refine lv_bipush (v := (10 : Int32)) hx hb d_Mo_make_18 (by decide) ?_
      obtain ⟨r3, hcr3, h⟩ := gz_b h
      refine gz_cv hP hD hS hA [0] [1] (wr := [(a0_output, .inl (cI, n0_output, .inl f0_output))]) rfl rfl (by decide) (by decide) (va_runV (As := [.int (10 : Int32)]) (rest := []) ⟨hx, hb, hml, hown, hts⟩ (c_Mo_blame l dC dI cI cB cZ tS a0 a0_input a0_output a0_told a0_lengths a0_small a0_row a0_tokenLength a0_tokenValue a0_counts a0_smallCounts a0_step a0_stepMore a0_order a0_listed a0_before a0_isSymbol a0_listSize a0_latest H.size N v0_inputSize v0_outputSize v0_bits v0_tokens v0_steps v0_bitAt (10 : Int32) v0_fault r3 hcr3) (cwV 1 hts (gz_gV kw_493 kw_494 kw_495 kw_492 kw_491) rfl rfl rfl (by decide +kernel) ⟨(Nat.le_of_ble_eq_true rfl), (Nat.le_of_ble_eq_true rfl)⟩) (gz_preV hK hE hP hD hS hA [0] (by decide) rfl 0 10 rfl rfl) rfl rfl hl.1 rfl (lv_room (Nat.le_of_ble_eq_true rfl)) d_Mo_make_20 ⟨(Nat.le_of_ble_eq_true rfl), (Nat.le_of_ble_eq_true rfl)⟩) (fun _ H locs hP hD hS => ?_)
      have hP : va_P (dC, dI) vwCl [(a0_output, .inl (cI, n0_output, .inl f0_output)), (a0, .inr (10, [.int v0_inputSize, .ref a0_input, .int v0_outputSize, .ref a0_output, .ref a0_told, .int v0_bits, .int r3, .ref a0_lengths, .ref a0_small, .ref a0_row, .int v0_tokens, .ref a0_tokenLength, .ref a0_tokenValue, .ref a0_counts, .ref a0_smallCounts, .int v0_steps, .ref a0_step, .ref a0_stepMore, .int v0_bitAt, .ref a0_order, .ref a0_listed, .ref a0_before, .ref a0_isSymbol, .ref a0_listSize, .ref a0_latest]))] H := hP
      have hD : va_D A [(a0_output, .inl (cI, n0_output, .inl f0_output)), (a0, .inr (10, [.int v0_inputSize, .ref a0_input, .int v0_outputSize, .ref a0_output, .ref a0_told, .int v0_bits, .int r3, .ref a0_lengths, .ref a0_small, .ref a0_row, .int v0_tokens, .ref a0_tokenLength, .ref a0_tokenValue, .ref a0_counts, .ref a0_smallCounts, .int v0_steps, .ref a0_step, .ref a0_stepMore, .int v0_bitAt, .ref a0_order, .ref a0_listed, .ref a0_before, .ref a0_isSymbol, .ref a0_listSize, .ref a0_latest]))] := hD
      exact (w_Mo_make_J1 C0 a0 a0_input a0_output a0_told a0_lengths a0_small a0_row a0_tokenLength a0_tokenValue a0_counts a0_smallCounts a0_step a0_stepMore a0_order a0_listed a0_before a0_isSymbol a0_listSize a0_latest N v0_inputSize v0_bits v0_tokens v0_steps v0_bitAt n0_output x) x1 r3 f0_output v0_outputSize h _ _ _ (hP.sub [1, 0] rfl) (hD.sub [1, 0] (by decide) rfl) hS (lv_sub hl [0, 1] rfl)
set_option maxHeartbeats 4000000 in
set_option maxRecDepth 100000 in
theorem c_Mo_make (l : Launch) (dC : Nat → ClassId) (dI : Nat → Nat → Nat) (cI cB cZ : ClassId) (tS : Nat) (a0 : Nat) (a0_input : Nat) (a0_output : Nat) (a0_told : Nat) (a0_lengths : Nat) (a0_small : Nat) (a0_row : Nat) (a0_tokenLength : Nat) (a0_tokenValue : Nat) (a0_counts : Nat) (a0_smallCounts : Nat) (a0_step : Nat) (a0_stepMore : Nat) (a0_order : Nat) (a0_listed : Nat) (a0_before : Nat) (a0_isSymbol : Nat) (a0_listSize : Nat) (a0_latest : Nat) (sz : Nat) (N : Nat) (v0_inputSize : Int32) (v0_bits : Int32) (v0_tokens : Int32) (v0_steps : Int32) (v0_bitAt : Int32) (n0_output : Nat) (x1 : Int32) (v0_fault : Int32) (f0_output : Nat → Int32) (v0_outputSize : Int32) (x : Int32 × (Nat → Int32) × Int32) (hf : (g_Mo_make_0 n0_output x1 v0_fault f0_output v0_outputSize) = some x) : Met l y_Mo_make w_Mo_makeS rm_Mo_make (gz_Pc [.ref a0, .int x1] (dC, dI) vwCl [(cI, .int), (cB, .byte), (cZ, .boolean)] tS [(a0, .inr (10, [.int v0_inputSize, .ref a0_input, .int v0_outputSize, .ref a0_output, .ref a0_told, .int v0_bits, .int v0_fault, .ref a0_lengths, .ref a0_small, .ref a0_row, .int v0_tokens, .ref a0_tokenLength, .ref a0_tokenValue, .ref a0_counts, .ref a0_smallCounts, .int v0_steps, .ref a0_step, .ref a0_stepMore, .int v0_bitAt, .ref a0_order, .ref a0_listed, .ref a0_before, .ref a0_isSymbol, .ref a0_listSize, .ref a0_latest])), (a0_output, .inl (cI, n0_output, .inl f0_output))] sz) (va_Qv (fun (_ : Unit) => True) (gz_B (dC, dI) vwCl (va_A [(a0, .inr (10, [.int v0_inputSize, .ref a0_input, .int v0_outputSize, .ref a0_output, .ref a0_told, .int v0_bits, .int v0_fault, .ref a0_lengths, .ref a0_small, .ref a0_row, .int v0_tokens, .ref a0_tokenLength, .ref a0_tokenValue, .ref a0_counts, .ref a0_smallCounts, .int v0_steps, .ref a0_step, .ref a0_stepMore, .int v0_bitAt, .ref a0_order, .ref a0_listed, .ref a0_before, .ref a0_isSymbol, .ref a0_listSize, .ref a0_latest])), (a0_output, .inl (cI, n0_output, .inl f0_output))] sz) (e_Mo_make dC dI cI cB cZ a0 a0_input a0_output a0_told a0_lengths a0_small a0_row a0_tokenLength a0_tokenValue a0_counts a0_smallCounts a0_step a0_stepMore a0_order a0_listed a0_before a0_isSymbol a0_listSize a0_latest N v0_inputSize v0_bits v0_tokens v0_steps v0_bitAt n0_output x)) (va_A [(a0, .inr (10, [.int v0_inputSize, .ref a0_input, .int v0_outputSize, .ref a0_output, .ref a0_told, .int v0_bits, .int v0_fault, .ref a0_lengths, .ref a0_small, .ref a0_row, .int v0_tokens, .ref a0_tokenLength, .ref a0_tokenValue, .ref a0_counts, .ref a0_smallCounts, .int v0_steps, .ref a0_step, .ref a0_stepMore, .int v0_bitAt, .ref a0_order, .ref a0_listed, .ref a0_before, .ref a0_isSymbol, .ref a0_listSize, .ref a0_latest])), (a0_output, .inl (cI, n0_output, .inl f0_output))] sz)) 0 0 (va_A [(a0, .inr (10, [.int v0_inputSize, .ref a0_input, .int v0_outputSize, .ref a0_output, .ref a0_told, .int v0_bits, .int v0_fault, .ref a0_lengths, .ref a0_small, .ref a0_row, .int v0_tokens, .ref a0_tokenLength, .ref a0_tokenValue, .ref a0_counts, .ref a0_smallCounts, .int v0_steps, .ref a0_step, .ref a0_stepMore, .int v0_bitAt, .ref a0_order, .ref a0_listed, .ref a0_before, .ref a0_isSymbol, .ref a0_listSize, .ref a0_latest])), (a0_output, .inl (cI, n0_output, .inl f0_output))] sz) := by
  refine Met.ofW (cc := b_Mo_make) (maxL := 2) (ret := none) (by decide) rfl ?_
  intro p e s m args below meth c s₁ B hml hv
  obtain ⟨rfl, hsz, hP, hK, hD0, hE⟩ := hv
  subst hsz
  have hl := lv_entry ([.ref a0, .int x1]) (n := 2) (Nat.le_of_ble_eq_true rfl)
  rw [lg_entry_eq]
  generalize (lg_sl ([.ref a0, .int x1]) ++ List.replicate (2 - (lg_sl ([.ref a0, .int x1])).length) Slot.unset).toArray = ls at hl ⊢
  have C0 : gz_C p s m _ meth c b_Mo_make 2 none R_Mo "make" gz_W _ (dC, dI) vwCl [(cI, .int), (cB, .byte), (cZ, .boolean)] tS := ⟨B.exec, B.bytes, B.returns, hml, findClass_of_methodNamed B.named, (name_of_methodNamed B.named B.method).1, fun w h => atoms_spec (ws := w_Mo_makeS) B.pre w (List.mem_cons_of_mem _ h), B.notSynchronized, fun q h => Or.inr h, hK, hE⟩
  exact w_Mo_make_0 C0 a0 a0_input a0_output a0_told a0_lengths a0_small a0_row a0_tokenLength a0_tokenValue a0_counts a0_smallCounts a0_step a0_stepMore a0_order a0_listed a0_before a0_isSymbol a0_listSize a0_latest N v0_inputSize v0_bits v0_tokens v0_steps v0_bitAt n0_output x x1 v0_fault f0_output v0_outputSize hf _ _ _ hP (hD0.self (sz := s.heap.size)) va_S.rf (lv_sub hl [0, 1] rfl)
abbrev rm_Mo_weightOf : Room := { frames := 0, cells := 0, slots := 0, locals := 0 }
abbrev e_Mo_weightOf (dC : Nat → ClassId) (dI : Nat → Nat → Nat) (cI cB cZ : ClassId) (a0 : Nat) (N : Nat) (n0 : Nat) (f0 : Nat → Int32) (x : Int32) (u : Unit) : va_W := [(a0, .inl (cI, n0, .inl f0))]
abbrev q_Mo_weightOf (below : List Frame) (args : Array Value) (s : State) (dC : Nat → ClassId) (dI : Nat → Nat → Nat) (cI cB cZ : ClassId) (A : Nat → Prop) (a0 : Nat) (N : Nat) (n0 : Nat) (f0 : Nat → Int32) (x : Int32) : State → Prop := MQ below (va_Qi (fun r (_ : Unit) => r = x) (gz_B (dC, dI) vwCl A (e_Mo_weightOf dC dI cI cB cZ a0 N n0 f0 x)) A) args s 0 0 A
def t_Mo_weightOf_L1 (p : Program) (l : Launch) (e : Env) (s : State) (m : MethodId) (args : Array Value) (below : List Frame) (meth : Method) (c : Code) (dC : Nat → ClassId) (dI : Nat → Nat → Nat) (cI cB cZ : ClassId) (tS : Nat) (A : Nat → Prop) (a0 : Nat) (N : Nat) (n0 : Nat) (f0 : Nat → Int32) (x : Int32) (F : Int32 → Int32 → Int32 → Int32 → Option (Int32)) : Prop :=
  ∀ (x1 : Int32) (x2 : Int32) (x3 : Int32) (x4 : Int32), F x1 x2 x3 x4 = some x → ∀ (H : Heap) (locs : List Loc) (ls : Array Slot), va_P (dC, dI) vwCl [(a0, .inl (cI, n0, .inl f0))] H → va_D A [(a0, .inl (cI, n0, .inl f0))] → va_S A s.heap H locs → lv_has ls 5 [(0, .ref a0), (1, .int x1), (2, .int x2), (3, .int x3), (4, .int x4)] → W p l e rm_Mo_weightOf s m args below meth c H locs 0 0 (q_Mo_weightOf below args s dC dI cI cB cZ A a0 N n0 f0 x) (F0 m 5 ls [])
def t_Mo_weightOf_0 (p : Program) (l : Launch) (e : Env) (s : State) (m : MethodId) (args : Array Value) (below : List Frame) (meth : Method) (c : Code) (dC : Nat → ClassId) (dI : Nat → Nat → Nat) (cI cB cZ : ClassId) (tS : Nat) (A : Nat → Prop) (a0 : Nat) (N : Nat) (n0 : Nat) (f0 : Nat → Int32) (x : Int32) (F : Int32 → Int32 → Option (Int32)) : Prop :=
  ∀ (x1 : Int32) (x2 : Int32), F x1 x2 = some x → ∀ (H : Heap) (locs : List Loc) (ls : Array Slot), va_P (dC, dI) vwCl [(a0, .inl (cI, n0, .inl f0))] H → va_D A [(a0, .inl (cI, n0, .inl f0))] → va_S A s.heap H locs → lv_has ls 5 [(0, .ref a0), (1, .int x1), (2, .int x2)] → W p l e rm_Mo_weightOf s m args below meth c H locs 0 0 (q_Mo_weightOf below args s dC dI cI cB cZ A a0 N n0 f0 x) (F0 m 0 ls [])
def g_Mo_weightOf_L1 (n0 : Nat) (f0 : Nat → Int32) : Nat → Int32 → Int32 → Int32 → Int32 → Option (Int32)
  | 0, _, _, _, _ => none
  | n + 1, x1, x2, x3, x4 => (if (x1 + x2) ≤ x4 then some (x3) else (if x4 < 0 ∨ n0 ≤ x4.toNatClampNeg then none else (if (f0 x4.toNatClampNeg) ≤ 0 then (g_Mo_weightOf_L1 n0 f0 n x1 x2 x3 (x4 + (1 : Int32))) else (g_Mo_weightOf_L1 n0 f0 n x1 x2 (x3 + ((1 : Int32) <<< (((15 : Int32) - (f0 x4.toNatClampNeg)) &&& 31))) (x4 + (1 : Int32))))))
set_option maxHeartbeats 4000000 in
set_option maxRecDepth 100000 in
theorem w_Mo_weightOf_L1 {p : Program} {l : Launch} {e : Env} {s : State} {m : MethodId} {args : Array Value} {below : List Frame} {meth : Method} {c : Code} {dC : Nat → ClassId} {dI : Nat → Nat → Nat} {cI cB cZ : ClassId} {tS : Nat} {A : Nat → Prop} (C0 : gz_C p s m args meth c b_Mo_weightOf 5 (some .int) R_Mo "weightOf" gz_W A (dC, dI) vwCl [(cI, .int), (cB, .byte), (cZ, .boolean)] tS) (a0 : Nat) (N : Nat) (n0 : Nat) (f0 : Nat → Int32) (x : Int32) : ∀ n : Nat, t_Mo_weightOf_L1 p l e s m args below meth c dC dI cI cB cZ tS A a0 N n0 f0 x (g_Mo_weightOf_L1 n0 f0 n) := by
  obtain ⟨hx, hb, hr, hml, hown, hin0, hts, hlocks, hA, hK, hE⟩ := id C0
  intro n
  induction n with
  | zero =>
    intro x1 x2 x3 x4 h
    cases h
  | succ n ih =>
    intro x1 x2 x3 x4 h H locs ls hP hD hS hl
    rw [g_Mo_weightOf_L1] at h
    refine lv_iload hx hb d_Mo_weightOf_5 (lv_at hl 4 rfl) ?_
    refine lv_iload_n hx hb d_Mo_weightOf_7 rfl (lv_at hl 1 rfl) ?_
    refine lv_iload_n hx hb d_Mo_weightOf_8 rfl (lv_at hl 2 rfl) ?_
    refine lv_iadd hx hb d_Mo_weightOf_9 ?_
    refine lv_icmp_ge (tgt := 42) hx hb d_Mo_weightOf_10 (by decide) (fun c1 => ?_) (fun c1 => ?_)
    · have h := gz_t h c1
      refine lv_iload_n hx hb d_Mo_weightOf_42 rfl (lv_at hl 3 rfl) ?_
      obtain rfl := Option.some.inj h
      exact W.iret (v := x3) hx hb hr (fun t ht hW => ⟨⟨x3, (), rfl, rfl, by rw [ht]; exact hP.sub [0] rfl, hD.sub [0] (by decide) rfl⟩, hS.F ht⟩) hS.2.2 d_Mo_weightOf_43
    · have h := gz_f h c1
      refine lv_aload_n hx hb d_Mo_weightOf_13 rfl (lv_at hl 0 rfl) ?_
      refine lv_iload hx hb d_Mo_weightOf_14 (lv_at hl 4 rfl) ?_
      obtain ⟨hi2, h⟩ := gz_n h
      refine va_iald hx hb hK hP 0 0 rfl rfl hi2 d_Mo_weightOf_16 ?_
      refine lv_if_le (tgt := 34) hx hb d_Mo_weightOf_17 (by decide) (fun c3 => ?_) (fun c3 => ?_)
      · have h := gz_t h c3
        refine lv_iload_n hx hb d_Mo_weightOf_34 rfl (lv_at hl 3 rfl) ?_
        refine lv_istore_n (lv' := [(3, .int x3), (0, .ref a0), (1, .int x1), (2, .int x2), (4, .int x4)]) hx hb d_Mo_weightOf_35 rfl hl (by decide) rfl (fun ls hl => ?_)
        refine lv_iinc (v := x4 + (1 : Int32)) (lv' := [(4, .int (x4 + (1 : Int32))), (3, .int x3), (0, .ref a0), (1, .int x1), (2, .int x2)]) hx hb d_Mo_weightOf_36 hl (k := 4) rfl rfl (by decide) rfl (fun ls hl => ?_)
        refine lv_goto (tgt := 5) hx hb d_Mo_weightOf_39 (by decide) ?_
        exact ih x1 x2 x3 (x4 + (1 : Int32)) h _ _ _ (hP.sub [0] rfl) (hD.sub [0] (by decide) rfl) hS (lv_sub hl [2, 3, 4, 1, 0] rfl)
      · have h := gz_f h c3
        refine lv_iload_n hx hb d_Mo_weightOf_20 rfl (lv_at hl 3 rfl) ?_
        refine lv_iconst (v := (1 : Int32)) hx hb d_Mo_weightOf_21 (by decide) ?_
        refine lv_bipush (v := (15 : Int32)) hx hb d_Mo_weightOf_22 (by decide) ?_
        refine lv_aload_n hx hb d_Mo_weightOf_24 rfl (lv_at hl 0 rfl) ?_
        refine lv_iload hx hb d_Mo_weightOf_25 (lv_at hl 4 rfl) ?_
        refine va_iald hx hb hK hP 0 0 rfl rfl hi2 d_Mo_weightOf_27 ?_
        refine lv_isub hx hb d_Mo_weightOf_28 ?_
        refine lv_ishl hx hb d_Mo_weightOf_29 ?_
        refine lv_iadd hx hb d_Mo_weightOf_30 ?_
        refine lv_goto (tgt := 35) hx hb d_Mo_weightOf_31 (by decide) ?_
        refine lv_istore_n (lv' := [(3, .int (x3 + ((1 : Int32) <<< (((15 : Int32) - (f0 x4.toNatClampNeg)) &&& 31)))), (0, .ref a0), (1, .int x1), (2, .int x2), (4, .int x4)]) hx hb d_Mo_weightOf_35 rfl hl (by decide) rfl (fun ls hl => ?_)
        refine lv_iinc (v := x4 + (1 : Int32)) (lv' := [(4, .int (x4 + (1 : Int32))), (3, .int (x3 + ((1 : Int32) <<< (((15 : Int32) - (f0 x4.toNatClampNeg)) &&& 31)))), (0, .ref a0), (1, .int x1), (2, .int x2)]) hx hb d_Mo_weightOf_36 hl (k := 4) rfl rfl (by decide) rfl (fun ls hl => ?_)
        refine lv_goto (tgt := 5) hx hb d_Mo_weightOf_39 (by decide) ?_
        exact ih x1 x2 (x3 + ((1 : Int32) <<< (((15 : Int32) - (f0 x4.toNatClampNeg)) &&& 31))) (x4 + (1 : Int32)) h _ _ _ (hP.sub [0] rfl) (hD.sub [0] (by decide) rfl) hS (lv_sub hl [2, 3, 4, 1, 0] rfl)
def g_Mo_weightOf_0 (N : Nat) (n0 : Nat) (f0 : Nat → Int32) (x1 : Int32) (x2 : Int32) : Option (Int32) := (g_Mo_weightOf_L1 n0 f0 N x1 x2 (0 : Int32) x1)
set_option maxHeartbeats 4000000 in
set_option maxRecDepth 100000 in
theorem w_Mo_weightOf_0 {p : Program} {l : Launch} {e : Env} {s : State} {m : MethodId} {args : Array Value} {below : List Frame} {meth : Method} {c : Code} {dC : Nat → ClassId} {dI : Nat → Nat → Nat} {cI cB cZ : ClassId} {tS : Nat} {A : Nat → Prop} (C0 : gz_C p s m args meth c b_Mo_weightOf 5 (some .int) R_Mo "weightOf" gz_W A (dC, dI) vwCl [(cI, .int), (cB, .byte), (cZ, .boolean)] tS) (a0 : Nat) (N : Nat) (n0 : Nat) (f0 : Nat → Int32) (x : Int32) : t_Mo_weightOf_0 p l e s m args below meth c dC dI cI cB cZ tS A a0 N n0 f0 x (g_Mo_weightOf_0 N n0 f0) := by
  obtain ⟨hx, hb, hr, hml, hown, hin0, hts, hlocks, hA, hK, hE⟩ := id C0
  intro x1 x2 h H locs ls hP hD hS hl
  rw [g_Mo_weightOf_0] at h
  refine lv_iconst (v := (0 : Int32)) hx hb d_Mo_weightOf_0 (by decide) ?_
  refine lv_istore_n (lv' := [(3, .int (0 : Int32)), (0, .ref a0), (1, .int x1), (2, .int x2)]) hx hb d_Mo_weightOf_1 rfl hl (by decide) rfl (fun ls hl => ?_)
  refine lv_iload_n hx hb d_Mo_weightOf_2 rfl (lv_at hl 2 rfl) ?_
  refine lv_istore (lv' := [(4, .int x1), (3, .int (0 : Int32)), (0, .ref a0), (1, .int x1), (2, .int x2)]) hx hb d_Mo_weightOf_3 hl (by decide) rfl (fun ls hl => ?_)
  exact (w_Mo_weightOf_L1 C0 a0 N n0 f0 x N) x1 x2 (0 : Int32) x1 h _ _ _ (hP.sub [0] rfl) (hD.sub [0] (by decide) rfl) hS (lv_sub hl [2, 3, 4, 1, 0] rfl)
set_option maxHeartbeats 4000000 in
set_option maxRecDepth 100000 in
theorem c_Mo_weightOf (l : Launch) (dC : Nat → ClassId) (dI : Nat → Nat → Nat) (cI cB cZ : ClassId) (tS : Nat) (a0 : Nat) (sz : Nat) (N : Nat) (n0 : Nat) (f0 : Nat → Int32) (x1 : Int32) (x2 : Int32) (x : Int32) (hf : (g_Mo_weightOf_0 N n0 f0 x1 x2) = some x) : Met l y_Mo_weightOf w_Mo_weightOfS rm_Mo_weightOf (gz_Pc [.ref a0, .int x1, .int x2] (dC, dI) vwCl [(cI, .int), (cB, .byte), (cZ, .boolean)] tS [(a0, .inl (cI, n0, .inl f0))] sz) (va_Qi (fun r (_ : Unit) => r = x) (gz_B (dC, dI) vwCl (va_A [(a0, .inl (cI, n0, .inl f0))] sz) (e_Mo_weightOf dC dI cI cB cZ a0 N n0 f0 x)) (va_A [(a0, .inl (cI, n0, .inl f0))] sz)) 0 0 (va_A [(a0, .inl (cI, n0, .inl f0))] sz) := by
  refine Met.ofW (cc := b_Mo_weightOf) (maxL := 5) (ret := (some .int)) (by decide) rfl ?_
  intro p e s m args below meth c s₁ B hml hv
  obtain ⟨rfl, hsz, hP, hK, hD0, hE⟩ := hv
  subst hsz
  have hl := lv_entry ([.ref a0, .int x1, .int x2]) (n := 5) (Nat.le_of_ble_eq_true rfl)
  rw [lg_entry_eq]
  generalize (lg_sl ([.ref a0, .int x1, .int x2]) ++ List.replicate (5 - (lg_sl ([.ref a0, .int x1, .int x2])).length) Slot.unset).toArray = ls at hl ⊢
  have C0 : gz_C p s m _ meth c b_Mo_weightOf 5 (some .int) R_Mo "weightOf" gz_W _ (dC, dI) vwCl [(cI, .int), (cB, .byte), (cZ, .boolean)] tS := ⟨B.exec, B.bytes, B.returns, hml, findClass_of_methodNamed B.named, (name_of_methodNamed B.named B.method).1, fun w h => atoms_spec (ws := w_Mo_weightOfS) B.pre w (List.mem_cons_of_mem _ h), B.notSynchronized, fun q h => Or.inr h, hK, hE⟩
  exact w_Mo_weightOf_0 C0 a0 N n0 f0 x x1 x2 hf _ _ _ hP (hD0.self (sz := s.heap.size)) va_S.rf (lv_sub hl [0, 1, 2] rfl)
abbrev rm_Mo_codesOf : Room := { frames := 0, cells := 0, slots := 0, locals := 0 }
abbrev e_Mo_codesOf (dC : Nat → ClassId) (dI : Nat → Nat → Nat) (cI cB cZ : ClassId) (a0 : Nat) (N : Nat) (n0 : Nat) (f0 : Nat → Int32) (x : Int32) (u : Unit) : va_W := [(a0, .inl (cI, n0, .inl f0))]
abbrev q_Mo_codesOf (below : List Frame) (args : Array Value) (s : State) (dC : Nat → ClassId) (dI : Nat → Nat → Nat) (cI cB cZ : ClassId) (A : Nat → Prop) (a0 : Nat) (N : Nat) (n0 : Nat) (f0 : Nat → Int32) (x : Int32) : State → Prop := MQ below (va_Qi (fun r (_ : Unit) => r = x) (gz_B (dC, dI) vwCl A (e_Mo_codesOf dC dI cI cB cZ a0 N n0 f0 x)) A) args s 0 0 A
def t_Mo_codesOf_L1 (p : Program) (l : Launch) (e : Env) (s : State) (m : MethodId) (args : Array Value) (below : List Frame) (meth : Method) (c : Code) (dC : Nat → ClassId) (dI : Nat → Nat → Nat) (cI cB cZ : ClassId) (tS : Nat) (A : Nat → Prop) (a0 : Nat) (N : Nat) (n0 : Nat) (f0 : Nat → Int32) (x : Int32) (F : Int32 → Int32 → Int32 → Int32 → Option (Int32)) : Prop :=
  ∀ (x1 : Int32) (x2 : Int32) (x3 : Int32) (x4 : Int32), F x1 x2 x3 x4 = some x → ∀ (H : Heap) (locs : List Loc) (ls : Array Slot), va_P (dC, dI) vwCl [(a0, .inl (cI, n0, .inl f0))] H → va_D A [(a0, .inl (cI, n0, .inl f0))] → va_S A s.heap H locs → lv_has ls 5 [(0, .ref a0), (1, .int x1), (2, .int x2), (3, .int x3), (4, .int x4)] → W p l e rm_Mo_codesOf s m args below meth c H locs 0 0 (q_Mo_codesOf below args s dC dI cI cB cZ A a0 N n0 f0 x) (F0 m 5 ls [])
def t_Mo_codesOf_0 (p : Program) (l : Launch) (e : Env) (s : State) (m : MethodId) (args : Array Value) (below : List Frame) (meth : Method) (c : Code) (dC : Nat → ClassId) (dI : Nat → Nat → Nat) (cI cB cZ : ClassId) (tS : Nat) (A : Nat → Prop) (a0 : Nat) (N : Nat) (n0 : Nat) (f0 : Nat → Int32) (x : Int32) (F : Int32 → Int32 → Option (Int32)) : Prop :=
  ∀ (x1 : Int32) (x2 : Int32), F x1 x2 = some x → ∀ (H : Heap) (locs : List Loc) (ls : Array Slot), va_P (dC, dI) vwCl [(a0, .inl (cI, n0, .inl f0))] H → va_D A [(a0, .inl (cI, n0, .inl f0))] → va_S A s.heap H locs → lv_has ls 5 [(0, .ref a0), (1, .int x1), (2, .int x2)] → W p l e rm_Mo_codesOf s m args below meth c H locs 0 0 (q_Mo_codesOf below args s dC dI cI cB cZ A a0 N n0 f0 x) (F0 m 0 ls [])
def g_Mo_codesOf_L1 (n0 : Nat) (f0 : Nat → Int32) : Nat → Int32 → Int32 → Int32 → Int32 → Option (Int32)
  | 0, _, _, _, _ => none
  | n + 1, x1, x2, x3, x4 => (if (x1 + x2) ≤ x4 then some (x3) else (if x4 < 0 ∨ n0 ≤ x4.toNatClampNeg then none else (if (f0 x4.toNatClampNeg) ≤ 0 then (g_Mo_codesOf_L1 n0 f0 n x1 x2 x3 (x4 + (1 : Int32))) else (g_Mo_codesOf_L1 n0 f0 n x1 x2 (x3 + (1 : Int32)) (x4 + (1 : Int32))))))
set_option maxHeartbeats 4000000 in
set_option maxRecDepth 100000 in
theorem w_Mo_codesOf_L1 {p : Program} {l : Launch} {e : Env} {s : State} {m : MethodId} {args : Array Value} {below : List Frame} {meth : Method} {c : Code} {dC : Nat → ClassId} {dI : Nat → Nat → Nat} {cI cB cZ : ClassId} {tS : Nat} {A : Nat → Prop} (C0 : gz_C p s m args meth c b_Mo_codesOf 5 (some .int) R_Mo "codesOf" gz_W A (dC, dI) vwCl [(cI, .int), (cB, .byte), (cZ, .boolean)] tS) (a0 : Nat) (N : Nat) (n0 : Nat) (f0 : Nat → Int32) (x : Int32) : ∀ n : Nat, t_Mo_codesOf_L1 p l e s m args below meth c dC dI cI cB cZ tS A a0 N n0 f0 x (g_Mo_codesOf_L1 n0 f0 n) := by
  obtain ⟨hx, hb, hr, hml, hown, hin0, hts, hlocks, hA, hK, hE⟩ := id C0
  intro n
  induction n with
  | zero =>
    intro x1 x2 x3 x4 h
    cases h
  | succ n ih =>
    intro x1 x2 x3 x4 h H locs ls hP hD hS hl
    rw [g_Mo_codesOf_L1] at h
    refine lv_iload hx hb d_Mo_codesOf_5 (lv_at hl 4 rfl) ?_
    refine lv_iload_n hx hb d_Mo_codesOf_7 rfl (lv_at hl 1 rfl) ?_
    refine lv_iload_n hx hb d_Mo_codesOf_8 rfl (lv_at hl 2 rfl) ?_
    refine lv_iadd hx hb d_Mo_codesOf_9 ?_
    refine lv_icmp_ge (tgt := 34) hx hb d_Mo_codesOf_10 (by decide) (fun c1 => ?_) (fun c1 => ?_)
    · have h := gz_t h c1
      refine lv_iload_n hx hb d_Mo_codesOf_34 rfl (lv_at hl 3 rfl) ?_
      obtain rfl := Option.some.inj h
      exact W.iret (v := x3) hx hb hr (fun t ht hW => ⟨⟨x3, (), rfl, rfl, by rw [ht]; exact hP.sub [0] rfl, hD.sub [0] (by decide) rfl⟩, hS.F ht⟩) hS.2.2 d_Mo_codesOf_35
    · have h := gz_f h c1
      refine lv_aload_n hx hb d_Mo_codesOf_13 rfl (lv_at hl 0 rfl) ?_
      refine lv_iload hx hb d_Mo_codesOf_14 (lv_at hl 4 rfl) ?_
      obtain ⟨hi2, h⟩ := gz_n h
      refine va_iald hx hb hK hP 0 0 rfl rfl hi2 d_Mo_codesOf_16 ?_
      refine lv_if_le (tgt := 26) hx hb d_Mo_codesOf_17 (by decide) (fun c3 => ?_) (fun c3 => ?_)
      · have h := gz_t h c3
        refine lv_iload_n hx hb d_Mo_codesOf_26 rfl (lv_at hl 3 rfl) ?_
        refine lv_istore_n (lv' := [(3, .int x3), (0, .ref a0), (1, .int x1), (2, .int x2), (4, .int x4)]) hx hb d_Mo_codesOf_27 rfl hl (by decide) rfl (fun ls hl => ?_)
        refine lv_iinc (v := x4 + (1 : Int32)) (lv' := [(4, .int (x4 + (1 : Int32))), (3, .int x3), (0, .ref a0), (1, .int x1), (2, .int x2)]) hx hb d_Mo_codesOf_28 hl (k := 4) rfl rfl (by decide) rfl (fun ls hl => ?_)
        refine lv_goto (tgt := 5) hx hb d_Mo_codesOf_31 (by decide) ?_
        exact ih x1 x2 x3 (x4 + (1 : Int32)) h _ _ _ (hP.sub [0] rfl) (hD.sub [0] (by decide) rfl) hS (lv_sub hl [2, 3, 4, 1, 0] rfl)
      · have h := gz_f h c3
        refine lv_iload_n hx hb d_Mo_codesOf_20 rfl (lv_at hl 3 rfl) ?_
        refine lv_iconst (v := (1 : Int32)) hx hb d_Mo_codesOf_21 (by decide) ?_
        refine lv_iadd hx hb d_Mo_codesOf_22 ?_
        refine lv_goto (tgt := 27) hx hb d_Mo_codesOf_23 (by decide) ?_
        refine lv_istore_n (lv' := [(3, .int (x3 + (1 : Int32))), (0, .ref a0), (1, .int x1), (2, .int x2), (4, .int x4)]) hx hb d_Mo_codesOf_27 rfl hl (by decide) rfl (fun ls hl => ?_)
        refine lv_iinc (v := x4 + (1 : Int32)) (lv' := [(4, .int (x4 + (1 : Int32))), (3, .int (x3 + (1 : Int32))), (0, .ref a0), (1, .int x1), (2, .int x2)]) hx hb d_Mo_codesOf_28 hl (k := 4) rfl rfl (by decide) rfl (fun ls hl => ?_)
        refine lv_goto (tgt := 5) hx hb d_Mo_codesOf_31 (by decide) ?_
        exact ih x1 x2 (x3 + (1 : Int32)) (x4 + (1 : Int32)) h _ _ _ (hP.sub [0] rfl) (hD.sub [0] (by decide) rfl) hS (lv_sub hl [2, 3, 4, 1, 0] rfl)
def g_Mo_codesOf_0 (N : Nat) (n0 : Nat) (f0 : Nat → Int32) (x1 : Int32) (x2 : Int32) : Option (Int32) := (g_Mo_codesOf_L1 n0 f0 N x1 x2 (0 : Int32) x1)
set_option maxHeartbeats 4000000 in
set_option maxRecDepth 100000 in
theorem w_Mo_codesOf_0 {p : Program} {l : Launch} {e : Env} {s : State} {m : MethodId} {args : Array Value} {below : List Frame} {meth : Method} {c : Code} {dC : Nat → ClassId} {dI : Nat → Nat → Nat} {cI cB cZ : ClassId} {tS : Nat} {A : Nat → Prop} (C0 : gz_C p s m args meth c b_Mo_codesOf 5 (some .int) R_Mo "codesOf" gz_W A (dC, dI) vwCl [(cI, .int), (cB, .byte), (cZ, .boolean)] tS) (a0 : Nat) (N : Nat) (n0 : Nat) (f0 : Nat → Int32) (x : Int32) : t_Mo_codesOf_0 p l e s m args below meth c dC dI cI cB cZ tS A a0 N n0 f0 x (g_Mo_codesOf_0 N n0 f0) := by
  obtain ⟨hx, hb, hr, hml, hown, hin0, hts, hlocks, hA, hK, hE⟩ := id C0
  intro x1 x2 h H locs ls hP hD hS hl
  rw [g_Mo_codesOf_0] at h
  refine lv_iconst (v := (0 : Int32)) hx hb d_Mo_codesOf_0 (by decide) ?_
  refine lv_istore_n (lv' := [(3, .int (0 : Int32)), (0, .ref a0), (1, .int x1), (2, .int x2)]) hx hb d_Mo_codesOf_1 rfl hl (by decide) rfl (fun ls hl => ?_)
  refine lv_iload_n hx hb d_Mo_codesOf_2 rfl (lv_at hl 2 rfl) ?_
  refine lv_istore (lv' := [(4, .int x1), (3, .int (0 : Int32)), (0, .ref a0), (1, .int x1), (2, .int x2)]) hx hb d_Mo_codesOf_3 hl (by decide) rfl (fun ls hl => ?_)
  exact (w_Mo_codesOf_L1 C0 a0 N n0 f0 x N) x1 x2 (0 : Int32) x1 h _ _ _ (hP.sub [0] rfl) (hD.sub [0] (by decide) rfl) hS (lv_sub hl [2, 3, 4, 1, 0] rfl)
set_option maxHeartbeats 4000000 in
set_option maxRecDepth 100000 in
theorem c_Mo_codesOf (l : Launch) (dC : Nat → ClassId) (dI : Nat → Nat → Nat) (cI cB cZ : ClassId) (tS : Nat) (a0 : Nat) (sz : Nat) (N : Nat) (n0 : Nat) (f0 : Nat → Int32) (x1 : Int32) (x2 : Int32) (x : Int32) (hf : (g_Mo_codesOf_0 N n0 f0 x1 x2) = some x) : Met l y_Mo_codesOf w_Mo_codesOfS rm_Mo_codesOf (gz_Pc [.ref a0, .int x1, .int x2] (dC, dI) vwCl [(cI, .int), (cB, .byte), (cZ, .boolean)] tS [(a0, .inl (cI, n0, .inl f0))] sz) (va_Qi (fun r (_ : Unit) => r = x) (gz_B (dC, dI) vwCl (va_A [(a0, .inl (cI, n0, .inl f0))] sz) (e_Mo_codesOf dC dI cI cB cZ a0 N n0 f0 x)) (va_A [(a0, .inl (cI, n0, .inl f0))] sz)) 0 0 (va_A [(a0, .inl (cI, n0, .inl f0))] sz) := by
  refine Met.ofW (cc := b_Mo_codesOf) (maxL := 5) (ret := (some .int)) (by decide) rfl ?_
  intro p e s m args below meth c s₁ B hml hv
  obtain ⟨rfl, hsz, hP, hK, hD0, hE⟩ := hv
  subst hsz
  have hl := lv_entry ([.ref a0, .int x1, .int x2]) (n := 5) (Nat.le_of_ble_eq_true rfl)
  rw [lg_entry_eq]
  generalize (lg_sl ([.ref a0, .int x1, .int x2]) ++ List.replicate (5 - (lg_sl ([.ref a0, .int x1, .int x2])).length) Slot.unset).toArray = ls at hl ⊢
  have C0 : gz_C p s m _ meth c b_Mo_codesOf 5 (some .int) R_Mo "codesOf" gz_W _ (dC, dI) vwCl [(cI, .int), (cB, .byte), (cZ, .boolean)] tS := ⟨B.exec, B.bytes, B.returns, hml, findClass_of_methodNamed B.named, (name_of_methodNamed B.named B.method).1, fun w h => atoms_spec (ws := w_Mo_codesOfS) B.pre w (List.mem_cons_of_mem _ h), B.notSynchronized, fun q h => Or.inr h, hK, hE⟩
  exact w_Mo_codesOf_0 C0 a0 N n0 f0 x x1 x2 hf _ _ _ hP (hD0.self (sz := s.heap.size)) va_S.rf (lv_sub hl [0, 1, 2] rfl)
abbrev rm_Mo_areCodes : Room := { frames := 1, cells := 0, slots := 0, locals := 24 }
abbrev e_Mo_areCodes (dC : Nat → ClassId) (dI : Nat → Nat → Nat) (cI cB cZ : ClassId) (a0 : Nat) (N : Nat) (n0 : Nat) (f0 : Nat → Int32) (x : Int32) (u : Unit) : va_W := [(a0, .inl (cI, n0, .inl f0))]
abbrev q_Mo_areCodes (below : List Frame) (args : Array Value) (s : State) (dC : Nat → ClassId) (dI : Nat → Nat → Nat) (cI cB cZ : ClassId) (A : Nat → Prop) (a0 : Nat) (N : Nat) (n0 : Nat) (f0 : Nat → Int32) (x : Int32) : State → Prop := MQ below (va_Qi (fun r (_ : Unit) => r = x) (gz_B (dC, dI) vwCl A (e_Mo_areCodes dC dI cI cB cZ a0 N n0 f0 x)) A) args s 0 0 A
def t_Mo_areCodes_J1 (p : Program) (l : Launch) (e : Env) (s : State) (m : MethodId) (args : Array Value) (below : List Frame) (meth : Method) (c : Code) (dC : Nat → ClassId) (dI : Nat → Nat → Nat) (cI cB cZ : ClassId) (tS : Nat) (A : Nat → Prop) (a0 : Nat) (N : Nat) (n0 : Nat) (f0 : Nat → Int32) (x : Int32) (F : Int32 → Int32 → Option (Int32)) : Prop :=
  ∀ (x3 : Int32) (x4 : Int32), F x3 x4 = some x → ∀ (H : Heap) (locs : List Loc) (ls : Array Slot), va_P (dC, dI) vwCl [(a0, .inl (cI, n0, .inl f0))] H → va_D A [(a0, .inl (cI, n0, .inl f0))] → va_S A s.heap H locs → lv_has ls 6 [(3, .int x3), (4, .int x4)] → W p l e rm_Mo_areCodes s m args below meth c H locs 0 0 (q_Mo_areCodes below args s dC dI cI cB cZ A a0 N n0 f0 x) (F0 m 37 ls [])
def t_Mo_areCodes_0 (p : Program) (l : Launch) (e : Env) (s : State) (m : MethodId) (args : Array Value) (below : List Frame) (meth : Method) (c : Code) (dC : Nat → ClassId) (dI : Nat → Nat → Nat) (cI cB cZ : ClassId) (tS : Nat) (A : Nat → Prop) (a0 : Nat) (N : Nat) (n0 : Nat) (f0 : Nat → Int32) (x : Int32) (F : Int32 → Int32 → Int32 → Option (Int32)) : Prop :=
  ∀ (x1 : Int32) (x2 : Int32) (x3 : Int32), F x1 x2 x3 = some x → ∀ (H : Heap) (locs : List Loc) (ls : Array Slot), va_P (dC, dI) vwCl [(a0, .inl (cI, n0, .inl f0))] H → va_D A [(a0, .inl (cI, n0, .inl f0))] → va_S A s.heap H locs → lv_has ls 6 [(0, .ref a0), (1, .int x1), (2, .int x2), (3, .int x3)] → W p l e rm_Mo_areCodes s m args below meth c H locs 0 0 (q_Mo_areCodes below args s dC dI cI cB cZ A a0 N n0 f0 x) (F0 m 0 ls [])
def g_Mo_areCodes_J1 (x3 : Int32) (x4 : Int32) : Option (Int32) := (if x4 = 0 then (if x3 = 0 then some ((0 : Int32)) else some ((1 : Int32))) else some ((0 : Int32)))
set_option maxHeartbeats 4000000 in
set_option maxRecDepth 100000 in
theorem w_Mo_areCodes_J1 {p : Program} {l : Launch} {e : Env} {s : State} {m : MethodId} {args : Array Value} {below : List Frame} {meth : Method} {c : Code} {dC : Nat → ClassId} {dI : Nat → Nat → Nat} {cI cB cZ : ClassId} {tS : Nat} {A : Nat → Prop} (C0 : gz_C p s m args meth c b_Mo_areCodes 6 (some .boolean) R_Mo "areCodes" gz_W A (dC, dI) vwCl [(cI, .int), (cB, .byte), (cZ, .boolean)] tS) (a0 : Nat) (N : Nat) (n0 : Nat) (f0 : Nat → Int32) (x : Int32) : t_Mo_areCodes_J1 p l e s m args below meth c dC dI cI cB cZ tS A a0 N n0 f0 x (g_Mo_areCodes_J1) := by
  obtain ⟨hx, hb, hr, hml, hown, hin0, hts, hlocks, hA, hK, hE⟩ := id C0
  intro x3 x4 h H locs ls hP hD hS hl
  rw [g_Mo_areCodes_J1] at h
  refine lv_iload hx hb d_Mo_areCodes_37 (lv_at hl 1 rfl) ?_
  refine lv_if_ne (tgt := 50) hx hb d_Mo_areCodes_39 (by decide) (fun c6 => ?_) (fun c6 => ?_)
  · have h := gz_f h c6
    refine lv_iconst (v := (0 : Int32)) hx hb d_Mo_areCodes_50 (by decide) ?_
    obtain rfl := Option.some.inj h
    exact W.zret (v := (0 : Int32)) hx hb hr rfl (fun t ht hW => ⟨⟨(0 : Int32), (), rfl, rfl, by rw [ht]; exact hP.sub [0] rfl, hD.sub [0] (by decide) rfl⟩, hS.F ht⟩) hS.2.2 d_Mo_areCodes_51
  · have h := gz_t h c6
    refine lv_iload_n hx hb d_Mo_areCodes_42 rfl (lv_at hl 0 rfl) ?_
    refine lv_if_eq (tgt := 50) hx hb d_Mo_areCodes_43 (by decide) (fun c7 => ?_) (fun c7 => ?_)
    · have h := gz_t h c7
      refine lv_iconst (v := (0 : Int32)) hx hb d_Mo_areCodes_50 (by decide) ?_
      obtain rfl := Option.some.inj h
      exact W.zret (v := (0 : Int32)) hx hb hr rfl (fun t ht hW => ⟨⟨(0 : Int32), (), rfl, rfl, by rw [ht]; exact hP.sub [0] rfl, hD.sub [0] (by decide) rfl⟩, hS.F ht⟩) hS.2.2 d_Mo_areCodes_51
    · have h := gz_f h c7
      refine lv_iconst (v := (1 : Int32)) hx hb d_Mo_areCodes_46 (by decide) ?_
      refine lv_goto (tgt := 51) hx hb d_Mo_areCodes_47 (by decide) ?_
      obtain rfl := Option.some.inj h
      exact W.zret (v := (1 : Int32)) hx hb hr rfl (fun t ht hW => ⟨⟨(1 : Int32), (), rfl, rfl, by rw [ht]; exact hP.sub [0] rfl, hD.sub [0] (by decide) rfl⟩, hS.F ht⟩) hS.2.2 d_Mo_areCodes_51
def g_Mo_areCodes_0 (N : Nat) (n0 : Nat) (f0 : Nat → Int32) (x1 : Int32) (x2 : Int32) (x3 : Int32) : Option (Int32) := (Option.bind (g_Mo_codesOf_0 N n0 f0 x1 x2) (fun r1 => (Option.bind (g_Mo_weightOf_0 N n0 f0 x1 x2) (fun r2 => (if r2 = (32768 : Int32) then some ((1 : Int32)) else (if r1 = (1 : Int32) then (if r2 = (16384 : Int32) then some ((1 : Int32)) else (g_Mo_areCodes_J1 x3 r1)) else (g_Mo_areCodes_J1 x3 r1)))))))
set_option maxHeartbeats 4000000 in
set_option maxRecDepth 100000 in
theorem w_Mo_areCodes_0 {p : Program} {l : Launch} {e : Env} {s : State} {m : MethodId} {args : Array Value} {below : List Frame} {meth : Method} {c : Code} {dC : Nat → ClassId} {dI : Nat → Nat → Nat} {cI cB cZ : ClassId} {tS : Nat} {A : Nat → Prop} (C0 : gz_C p s m args meth c b_Mo_areCodes 6 (some .boolean) R_Mo "areCodes" gz_W A (dC, dI) vwCl [(cI, .int), (cB, .byte), (cZ, .boolean)] tS) (a0 : Nat) (N : Nat) (n0 : Nat) (f0 : Nat → Int32) (x : Int32) : t_Mo_areCodes_0 p l e s m args below meth c dC dI cI cB cZ tS A a0 N n0 f0 x (g_Mo_areCodes_0 N n0 f0) := by
  obtain ⟨hx, hb, hr, hml, hown, hin0, hts, hlocks, hA, hK, hE⟩ := id C0
  intro x1 x2 x3 h H locs ls hP hD hS hl
  rw [g_Mo_areCodes_0] at h
  refine lv_aload_n hx hb d_Mo_areCodes_0 rfl (lv_at hl 0 rfl) ?_
  refine lv_iload_n hx hb d_Mo_areCodes_1 rfl (lv_at hl 1 rfl) ?_
  refine lv_iload_n hx hb d_Mo_areCodes_2 rfl (lv_at hl 2 rfl) ?_
  obtain ⟨r1, hcr1, h⟩ := gz_b h
  refine gz_ci hP hD hS hA [0] [] (wr := []) rfl rfl (by decide) (by decide) (va_runS (As := [.ref a0, .int x1, .int x2]) (rest := []) ⟨hx, hb, hml, hown, hts⟩ (c_Mo_codesOf l dC dI cI cB cZ tS a0 H.size N n0 f0 x1 x2 r1 hcr1) (va_cwS 3 hts (gz_gS kw_501 kw_502 kw_492 kw_500) rfl rfl rfl (by decide +kernel) ⟨(Nat.le_of_ble_eq_true rfl), (Nat.le_of_ble_eq_true rfl)⟩) (gz_preS hK hE hP hD hS hA [0] (by decide) rfl) rfl rfl hl.1 rfl (lv_room (Nat.le_of_ble_eq_true rfl)) d_Mo_areCodes_3 ⟨(Nat.le_of_ble_eq_true rfl), (Nat.le_of_ble_eq_true rfl)⟩) (fun _ H locs hP hD hS => ?_)
  have hP : va_P (dC, dI) vwCl [(a0, .inl (cI, n0, .inl f0))] H := hP
  have hD : va_D A [(a0, .inl (cI, n0, .inl f0))] := hD
  refine lv_istore (lv' := [(4, .int r1), (0, .ref a0), (1, .int x1), (2, .int x2), (3, .int x3)]) hx hb d_Mo_areCodes_6 hl (by decide) rfl (fun ls hl => ?_)
  refine lv_aload_n hx hb d_Mo_areCodes_8 rfl (lv_at hl 1 rfl) ?_
  refine lv_iload_n hx hb d_Mo_areCodes_9 rfl (lv_at hl 2 rfl) ?_
  refine lv_iload_n hx hb d_Mo_areCodes_10 rfl (lv_at hl 3 rfl) ?_
  obtain ⟨r2, hcr2, h⟩ := gz_b h
  refine gz_ci hP hD hS hA [0] [] (wr := []) rfl rfl (by decide) (by decide) (va_runS (As := [.ref a0, .int x1, .int x2]) (rest := []) ⟨hx, hb, hml, hown, hts⟩ (c_Mo_weightOf l dC dI cI cB cZ tS a0 H.size N n0 f0 x1 x2 r2 hcr2) (va_cwS 3 hts (gz_gS kw_504 kw_505 kw_492 kw_503) rfl rfl rfl (by decide +kernel) ⟨(Nat.le_of_ble_eq_true rfl), (Nat.le_of_ble_eq_true rfl)⟩) (gz_preS hK hE hP hD hS hA [0] (by decide) rfl) rfl rfl hl.1 rfl (lv_room (Nat.le_of_ble_eq_true rfl)) d_Mo_areCodes_11 ⟨(Nat.le_of_ble_eq_true rfl), (Nat.le_of_ble_eq_true rfl)⟩) (fun _ H locs hP hD hS => ?_)
  have hP : va_P (dC, dI) vwCl [(a0, .inl (cI, n0, .inl f0))] H := hP
  have hD : va_D A [(a0, .inl (cI, n0, .inl f0))] := hD
  refine lv_istore (lv' := [(5, .int r2), (4, .int r1), (0, .ref a0), (1, .int x1), (2, .int x2), (3, .int x3)]) hx hb d_Mo_areCodes_14 hl (by decide) rfl (fun ls hl => ?_)
  refine lv_iload hx hb d_Mo_areCodes_16 (lv_at hl 0 rfl) ?_
  refine lv_ldc (v := (32768 : Int32)) hx hb hown (hts _ kw_506) d_Mo_areCodes_18 ?_
  refine lv_icmp_eq (tgt := 46) hx hb d_Mo_areCodes_20 (by decide) (fun c3 => ?_) (fun c3 => ?_)
  · have h := gz_t h c3
    refine lv_iconst (v := (1 : Int32)) hx hb d_Mo_areCodes_46 (by decide) ?_
    refine lv_goto (tgt := 51) hx hb d_Mo_areCodes_47 (by decide) ?_
    obtain rfl := Option.some.inj h
    exact W.zret (v := (1 : Int32)) hx hb hr rfl (fun t ht hW => ⟨⟨(1 : Int32), (), rfl, rfl, by rw [ht]; exact hP.sub [0] rfl, hD.sub [0] (by decide) rfl⟩, hS.F ht⟩) hS.2.2 d_Mo_areCodes_51
  · have h := gz_f h c3
    refine lv_iload hx hb d_Mo_areCodes_23 (lv_at hl 1 rfl) ?_
    refine lv_iconst (v := (1 : Int32)) hx hb d_Mo_areCodes_25 (by decide) ?_
    refine lv_icmp_ne (tgt := 37) hx hb d_Mo_areCodes_26 (by decide) (fun c4 => ?_) (fun c4 => ?_)
    · have h := gz_f h c4
      exact (w_Mo_areCodes_J1 C0 a0 N n0 f0 x) x3 r1 h _ _ _ (hP.sub [0] rfl) (hD.sub [0] (by decide) rfl) hS (lv_sub hl [5, 1] rfl)
    · have h := gz_t h c4
      refine lv_iload hx hb d_Mo_areCodes_29 (lv_at hl 0 rfl) ?_
      refine lv_sipush (v := (16384 : Int32)) hx hb d_Mo_areCodes_31 (by decide) ?_
      refine lv_icmp_eq (tgt := 46) hx hb d_Mo_areCodes_34 (by decide) (fun c5 => ?_) (fun c5 => ?_)
      · have h := gz_t h c5
        refine lv_iconst (v := (1 : Int32)) hx hb d_Mo_areCodes_46 (by decide) ?_
        refine lv_goto (tgt := 51) hx hb d_Mo_areCodes_47 (by decide) ?_
        obtain rfl := Option.some.inj h
        exact W.zret (v := (1 : Int32)) hx hb hr rfl (fun t ht hW => ⟨⟨(1 : Int32), (), rfl, rfl, by rw [ht]; exact hP.sub [0] rfl, hD.sub [0] (by decide) rfl⟩, hS.F ht⟩) hS.2.2 d_Mo_areCodes_51
      · have h := gz_f h c5
        exact (w_Mo_areCodes_J1 C0 a0 N n0 f0 x) x3 r1 h _ _ _ (hP.sub [0] rfl) (hD.sub [0] (by decide) rfl) hS (lv_sub hl [5, 1] rfl)
set_option maxHeartbeats 4000000 in
set_option maxRecDepth 100000 in
theorem c_Mo_areCodes (l : Launch) (dC : Nat → ClassId) (dI : Nat → Nat → Nat) (cI cB cZ : ClassId) (tS : Nat) (a0 : Nat) (sz : Nat) (N : Nat) (n0 : Nat) (f0 : Nat → Int32) (x1 : Int32) (x2 : Int32) (x3 : Int32) (x : Int32) (hf : (g_Mo_areCodes_0 N n0 f0 x1 x2 x3) = some x) : Met l y_Mo_areCodes w_Mo_areCodesS rm_Mo_areCodes (gz_Pc [.ref a0, .int x1, .int x2, .int x3] (dC, dI) vwCl [(cI, .int), (cB, .byte), (cZ, .boolean)] tS [(a0, .inl (cI, n0, .inl f0))] sz) (va_Qi (fun r (_ : Unit) => r = x) (gz_B (dC, dI) vwCl (va_A [(a0, .inl (cI, n0, .inl f0))] sz) (e_Mo_areCodes dC dI cI cB cZ a0 N n0 f0 x)) (va_A [(a0, .inl (cI, n0, .inl f0))] sz)) 0 0 (va_A [(a0, .inl (cI, n0, .inl f0))] sz) := by
  refine Met.ofW (cc := b_Mo_areCodes) (maxL := 6) (ret := (some .boolean)) (by decide) rfl ?_
  intro p e s m args below meth c s₁ B hml hv
  obtain ⟨rfl, hsz, hP, hK, hD0, hE⟩ := hv
  subst hsz
  have hl := lv_entry ([.ref a0, .int x1, .int x2, .int x3]) (n := 6) (Nat.le_of_ble_eq_true rfl)
  rw [lg_entry_eq]
  generalize (lg_sl ([.ref a0, .int x1, .int x2, .int x3]) ++ List.replicate (6 - (lg_sl ([.ref a0, .int x1, .int x2, .int x3])).length) Slot.unset).toArray = ls at hl ⊢
  have C0 : gz_C p s m _ meth c b_Mo_areCodes 6 (some .boolean) R_Mo "areCodes" gz_W _ (dC, dI) vwCl [(cI, .int), (cB, .byte), (cZ, .boolean)] tS := ⟨B.exec, B.bytes, B.returns, hml, findClass_of_methodNamed B.named, (name_of_methodNamed B.named B.method).1, fun w h => atoms_spec (ws := w_Mo_areCodesS) B.pre w (List.mem_cons_of_mem _ h), B.notSynchronized, fun q h => Or.inr h, hK, hE⟩
  exact w_Mo_areCodes_0 C0 a0 N n0 f0 x x1 x2 x3 hf _ _ _ hP (hD0.self (sz := s.heap.size)) va_S.rf (lv_sub hl [0, 1, 2, 3] rfl)
abbrev rm_Mo_codeOf : Room := { frames := 0, cells := 0, slots := 0, locals := 0 }
abbrev e_Mo_codeOf (dC : Nat → ClassId) (dI : Nat → Nat → Nat) (cI cB cZ : ClassId) (a0 : Nat) (N : Nat) (n0 : Nat) (f0 : Nat → Int32) (x : Int32) (u : Unit) : va_W := [(a0, .inl (cI, n0, .inl f0))]
abbrev q_Mo_codeOf (below : List Frame) (args : Array Value) (s : State) (dC : Nat → ClassId) (dI : Nat → Nat → Nat) (cI cB cZ : ClassId) (A : Nat → Prop) (a0 : Nat) (N : Nat) (n0 : Nat) (f0 : Nat → Int32) (x : Int32) : State → Prop := MQ below (va_Qi (fun r (_ : Unit) => r = x) (gz_B (dC, dI) vwCl A (e_Mo_codeOf dC dI cI cB cZ a0 N n0 f0 x)) A) args s 0 0 A
def t_Mo_codeOf_J2 (p : Program) (l : Launch) (e : Env) (s : State) (m : MethodId) (args : Array Value) (below : List Frame) (meth : Method) (c : Code) (dC : Nat → ClassId) (dI : Nat → Nat → Nat) (cI cB cZ : ClassId) (tS : Nat) (A : Nat → Prop) (a0 : Nat) (N : Nat) (n0 : Nat) (f0 : Nat → Int32) (x : Int32) (F : Int32 → Int32 → Int32 → Int32 → Int32 → Int32 → Int32 → Option (Int32)) : Prop :=
  ∀ (x1 : Int32) (x2 : Int32) (x3 : Int32) (x4 : Int32) (x5 : Int32) (x6 : Int32) (y0 : Int32), F x1 x2 x3 x4 x5 x6 y0 = some x → ∀ (H : Heap) (locs : List Loc) (ls : Array Slot), va_P (dC, dI) vwCl [(a0, .inl (cI, n0, .inl f0))] H → va_D A [(a0, .inl (cI, n0, .inl f0))] → va_S A s.heap H locs → lv_has ls 8 [(0, .ref a0), (1, .int x1), (2, .int x2), (3, .int x3), (4, .int x4), (5, .int x5), (6, .int x6)] → W p l e rm_Mo_codeOf s m args below meth c H locs 0 0 (q_Mo_codeOf below args s dC dI cI cB cZ A a0 N n0 f0 x) (F0 m 52 ls [.int y0])
def t_Mo_codeOf_J1 (p : Program) (l : Launch) (e : Env) (s : State) (m : MethodId) (args : Array Value) (below : List Frame) (meth : Method) (c : Code) (dC : Nat → ClassId) (dI : Nat → Nat → Nat) (cI cB cZ : ClassId) (tS : Nat) (A : Nat → Prop) (a0 : Nat) (N : Nat) (n0 : Nat) (f0 : Nat → Int32) (x : Int32) (F : Int32 → Int32 → Int32 → Int32 → Int32 → Int32 → Option (Int32)) : Prop :=
  ∀ (x1 : Int32) (x2 : Int32) (x3 : Int32) (x4 : Int32) (x5 : Int32) (x6 : Int32), F x1 x2 x3 x4 x5 x6 = some x → ∀ (H : Heap) (locs : List Loc) (ls : Array Slot), va_P (dC, dI) vwCl [(a0, .inl (cI, n0, .inl f0))] H → va_D A [(a0, .inl (cI, n0, .inl f0))] → va_S A s.heap H locs → lv_has ls 8 [(0, .ref a0), (1, .int x1), (2, .int x2), (3, .int x3), (4, .int x4), (5, .int x5), (6, .int x6)] → W p l e rm_Mo_codeOf s m args below meth c H locs 0 0 (q_Mo_codeOf below args s dC dI cI cB cZ A a0 N n0 f0 x) (F0 m 47 ls [])
def t_Mo_codeOf_L2 (p : Program) (l : Launch) (e : Env) (s : State) (m : MethodId) (args : Array Value) (below : List Frame) (meth : Method) (c : Code) (dC : Nat → ClassId) (dI : Nat → Nat → Nat) (cI cB cZ : ClassId) (tS : Nat) (A : Nat → Prop) (a0 : Nat) (N : Nat) (n0 : Nat) (f0 : Nat → Int32) (x : Int32) (F : Int32 → Int32 → Int32 → Int32 → Int32 → Int32 → Option (Int32)) : Prop :=
  ∀ (x1 : Int32) (x2 : Int32) (x3 : Int32) (x4 : Int32) (x5 : Int32) (x6 : Int32), F x1 x2 x3 x4 x5 x6 = some x → ∀ (H : Heap) (locs : List Loc) (ls : Array Slot), va_P (dC, dI) vwCl [(a0, .inl (cI, n0, .inl f0))] H → va_D A [(a0, .inl (cI, n0, .inl f0))] → va_S A s.heap H locs → lv_has ls 8 [(0, .ref a0), (1, .int x1), (2, .int x2), (3, .int x3), (4, .int x4), (5, .int x5), (6, .int x6)] → W p l e rm_Mo_codeOf s m args below meth c H locs 0 0 (q_Mo_codeOf below args s dC dI cI cB cZ A a0 N n0 f0 x) (F0 m 25 ls [])
def t_Mo_codeOf_L1 (p : Program) (l : Launch) (e : Env) (s : State) (m : MethodId) (args : Array Value) (below : List Frame) (meth : Method) (c : Code) (dC : Nat → ClassId) (dI : Nat → Nat → Nat) (cI cB cZ : ClassId) (tS : Nat) (A : Nat → Prop) (a0 : Nat) (N : Nat) (n0 : Nat) (f0 : Nat → Int32) (x : Int32) (F : Int32 → Int32 → Int32 → Int32 → Int32 → Option (Int32)) : Prop :=
  ∀ (x1 : Int32) (x2 : Int32) (x3 : Int32) (x4 : Int32) (x5 : Int32), F x1 x2 x3 x4 x5 = some x → ∀ (H : Heap) (locs : List Loc) (ls : Array Slot), va_P (dC, dI) vwCl [(a0, .inl (cI, n0, .inl f0))] H → va_D A [(a0, .inl (cI, n0, .inl f0))] → va_S A s.heap H locs → lv_has ls 8 [(0, .ref a0), (1, .int x1), (2, .int x2), (3, .int x3), (4, .int x4), (5, .int x5)] → W p l e rm_Mo_codeOf s m args below meth c H locs 0 0 (q_Mo_codeOf below args s dC dI cI cB cZ A a0 N n0 f0 x) (F0 m 6 ls [])
def t_Mo_codeOf_0 (p : Program) (l : Launch) (e : Env) (s : State) (m : MethodId) (args : Array Value) (below : List Frame) (meth : Method) (c : Code) (dC : Nat → ClassId) (dI : Nat → Nat → Nat) (cI cB cZ : ClassId) (tS : Nat) (A : Nat → Prop) (a0 : Nat) (N : Nat) (n0 : Nat) (f0 : Nat → Int32) (x : Int32) (F : Int32 → Int32 → Int32 → Option (Int32)) : Prop :=
  ∀ (x1 : Int32) (x2 : Int32) (x3 : Int32), F x1 x2 x3 = some x → ∀ (H : Heap) (locs : List Loc) (ls : Array Slot), va_P (dC, dI) vwCl [(a0, .inl (cI, n0, .inl f0))] H → va_D A [(a0, .inl (cI, n0, .inl f0))] → va_S A s.heap H locs → lv_has ls 8 [(0, .ref a0), (1, .int x1), (2, .int x2), (3, .int x3)] → W p l e rm_Mo_codeOf s m args below meth c H locs 0 0 (q_Mo_codeOf below args s dC dI cI cB cZ A a0 N n0 f0 x) (F0 m 0 ls [])
def g_Mo_codeOf_J2 (n0 : Nat) (f0 : Nat → Int32) (K_Mo_codeOf_L2 : Int32 → Int32 → Int32 → Int32 → Int32 → Int32 → Option (Int32)) (x1 : Int32) (x2 : Int32) (x3 : Int32) (x4 : Int32) (x5 : Int32) (x6 : Int32) (y0 : Int32) : Option (Int32) := (if x1 + x6 < 0 ∨ n0 ≤ (x1 + x6).toNatClampNeg then none else (if (f0 (x1 + x6).toNatClampNeg) = x5 then (if y0 = 0 then (K_Mo_codeOf_L2 x1 x2 x3 x4 x5 (x6 + (1 : Int32))) else (K_Mo_codeOf_L2 x1 x2 x3 (x4 + (1 : Int32)) x5 (x6 + (1 : Int32)))) else (K_Mo_codeOf_L2 x1 x2 x3 x4 x5 (x6 + (1 : Int32)))))
set_option maxHeartbeats 4000000 in
set_option maxRecDepth 100000 in
theorem w_Mo_codeOf_J2 {p : Program} {l : Launch} {e : Env} {s : State} {m : MethodId} {args : Array Value} {below : List Frame} {meth : Method} {c : Code} {dC : Nat → ClassId} {dI : Nat → Nat → Nat} {cI cB cZ : ClassId} {tS : Nat} {A : Nat → Prop} (C0 : gz_C p s m args meth c b_Mo_codeOf 8 (some .int) R_Mo "codeOf" gz_W A (dC, dI) vwCl [(cI, .int), (cB, .byte), (cZ, .boolean)] tS) (a0 : Nat) (N : Nat) (n0 : Nat) (f0 : Nat → Int32) (x : Int32) {K_Mo_codeOf_L2 : Int32 → Int32 → Int32 → Int32 → Int32 → Int32 → Option (Int32)} (hK_Mo_codeOf_L2 : t_Mo_codeOf_L2 p l e s m args below meth c dC dI cI cB cZ tS A a0 N n0 f0 x K_Mo_codeOf_L2) : t_Mo_codeOf_J2 p l e s m args below meth c dC dI cI cB cZ tS A a0 N n0 f0 x (g_Mo_codeOf_J2 n0 f0 K_Mo_codeOf_L2) := by
  obtain ⟨hx, hb, hr, hml, hown, hin0, hts, hlocks, hA, hK, hE⟩ := id C0
  intro x1 x2 x3 x4 x5 x6 y0 h H locs ls hP hD hS hl
  rw [g_Mo_codeOf_J2] at h
  refine lv_istore (lv' := [(7, .int y0), (0, .ref a0), (1, .int x1), (2, .int x2), (3, .int x3), (4, .int x4), (5, .int x5), (6, .int x6)]) hx hb d_Mo_codeOf_52 hl (by decide) rfl (fun ls hl => ?_)
  refine lv_aload_n hx hb d_Mo_codeOf_54 rfl (lv_at hl 1 rfl) ?_
  refine lv_iload_n hx hb d_Mo_codeOf_55 rfl (lv_at hl 2 rfl) ?_
  refine lv_iload hx hb d_Mo_codeOf_56 (lv_at hl 7 rfl) ?_
  refine lv_iadd hx hb d_Mo_codeOf_58 ?_
  obtain ⟨hi7, h⟩ := gz_n h
  refine va_iald hx hb hK hP 0 0 rfl rfl hi7 d_Mo_codeOf_59 ?_
  refine lv_iload hx hb d_Mo_codeOf_60 (lv_at hl 6 rfl) ?_
  refine lv_icmp_ne (tgt := 77) hx hb d_Mo_codeOf_62 (by decide) (fun c8 => ?_) (fun c8 => ?_)
  · have h := gz_f h c8
    refine lv_iload hx hb d_Mo_codeOf_77 (lv_at hl 5 rfl) ?_
    refine lv_istore (lv' := [(4, .int x4), (7, .int y0), (0, .ref a0), (1, .int x1), (2, .int x2), (3, .int x3), (5, .int x5), (6, .int x6)]) hx hb d_Mo_codeOf_79 hl (by decide) rfl (fun ls hl => ?_)
    refine lv_iinc (v := x6 + (1 : Int32)) (lv' := [(6, .int (x6 + (1 : Int32))), (4, .int x4), (7, .int y0), (0, .ref a0), (1, .int x1), (2, .int x2), (3, .int x3), (5, .int x5)]) hx hb d_Mo_codeOf_81 hl (k := 7) rfl rfl (by decide) rfl (fun ls hl => ?_)
    refine lv_goto (tgt := 25) hx hb d_Mo_codeOf_84 (by decide) ?_
    exact hK_Mo_codeOf_L2 x1 x2 x3 x4 x5 (x6 + (1 : Int32)) h _ _ _ (hP.sub [0] rfl) (hD.sub [0] (by decide) rfl) hS (lv_sub hl [3, 4, 5, 6, 1, 7, 0] rfl)
  · have h := gz_t h c8
    refine lv_iload hx hb d_Mo_codeOf_65 (lv_at hl 0 rfl) ?_
    refine lv_if_eq (tgt := 77) hx hb d_Mo_codeOf_67 (by decide) (fun c9 => ?_) (fun c9 => ?_)
    · have h := gz_t h c9
      refine lv_iload hx hb d_Mo_codeOf_77 (lv_at hl 5 rfl) ?_
      refine lv_istore (lv' := [(4, .int x4), (7, .int y0), (0, .ref a0), (1, .int x1), (2, .int x2), (3, .int x3), (5, .int x5), (6, .int x6)]) hx hb d_Mo_codeOf_79 hl (by decide) rfl (fun ls hl => ?_)
      refine lv_iinc (v := x6 + (1 : Int32)) (lv' := [(6, .int (x6 + (1 : Int32))), (4, .int x4), (7, .int y0), (0, .ref a0), (1, .int x1), (2, .int x2), (3, .int x3), (5, .int x5)]) hx hb d_Mo_codeOf_81 hl (k := 7) rfl rfl (by decide) rfl (fun ls hl => ?_)
      refine lv_goto (tgt := 25) hx hb d_Mo_codeOf_84 (by decide) ?_
      exact hK_Mo_codeOf_L2 x1 x2 x3 x4 x5 (x6 + (1 : Int32)) h _ _ _ (hP.sub [0] rfl) (hD.sub [0] (by decide) rfl) hS (lv_sub hl [3, 4, 5, 6, 1, 7, 0] rfl)
    · have h := gz_f h c9
      refine lv_iload hx hb d_Mo_codeOf_70 (lv_at hl 5 rfl) ?_
      refine lv_iconst (v := (1 : Int32)) hx hb d_Mo_codeOf_72 (by decide) ?_
      refine lv_iadd hx hb d_Mo_codeOf_73 ?_
      refine lv_goto (tgt := 79) hx hb d_Mo_codeOf_74 (by decide) ?_
      refine lv_istore (lv' := [(4, .int (x4 + (1 : Int32))), (7, .int y0), (0, .ref a0), (1, .int x1), (2, .int x2), (3, .int x3), (5, .int x5), (6, .int x6)]) hx hb d_Mo_codeOf_79 hl (by decide) rfl (fun ls hl => ?_)
      refine lv_iinc (v := x6 + (1 : Int32)) (lv' := [(6, .int (x6 + (1 : Int32))), (4, .int (x4 + (1 : Int32))), (7, .int y0), (0, .ref a0), (1, .int x1), (2, .int x2), (3, .int x3), (5, .int x5)]) hx hb d_Mo_codeOf_81 hl (k := 7) rfl rfl (by decide) rfl (fun ls hl => ?_)
      refine lv_goto (tgt := 25) hx hb d_Mo_codeOf_84 (by decide) ?_
      exact hK_Mo_codeOf_L2 x1 x2 x3 (x4 + (1 : Int32)) x5 (x6 + (1 : Int32)) h _ _ _ (hP.sub [0] rfl) (hD.sub [0] (by decide) rfl) hS (lv_sub hl [3, 4, 5, 6, 1, 7, 0] rfl)
def g_Mo_codeOf_J1 (n0 : Nat) (f0 : Nat → Int32) (K_Mo_codeOf_L2 : Int32 → Int32 → Int32 → Int32 → Int32 → Int32 → Option (Int32)) (x1 : Int32) (x2 : Int32) (x3 : Int32) (x4 : Int32) (x5 : Int32) (x6 : Int32) : Option (Int32) := (g_Mo_codeOf_J2 n0 f0 K_Mo_codeOf_L2 x1 x2 x3 x4 x5 x6 (1 : Int32))
set_option maxHeartbeats 4000000 in
set_option maxRecDepth 100000 in
theorem w_Mo_codeOf_J1 {p : Program} {l : Launch} {e : Env} {s : State} {m : MethodId} {args : Array Value} {below : List Frame} {meth : Method} {c : Code} {dC : Nat → ClassId} {dI : Nat → Nat → Nat} {cI cB cZ : ClassId} {tS : Nat} {A : Nat → Prop} (C0 : gz_C p s m args meth c b_Mo_codeOf 8 (some .int) R_Mo "codeOf" gz_W A (dC, dI) vwCl [(cI, .int), (cB, .byte), (cZ, .boolean)] tS) (a0 : Nat) (N : Nat) (n0 : Nat) (f0 : Nat → Int32) (x : Int32) {K_Mo_codeOf_L2 : Int32 → Int32 → Int32 → Int32 → Int32 → Int32 → Option (Int32)} (hK_Mo_codeOf_L2 : t_Mo_codeOf_L2 p l e s m args below meth c dC dI cI cB cZ tS A a0 N n0 f0 x K_Mo_codeOf_L2) : t_Mo_codeOf_J1 p l e s m args below meth c dC dI cI cB cZ tS A a0 N n0 f0 x (g_Mo_codeOf_J1 n0 f0 K_Mo_codeOf_L2) := by
  obtain ⟨hx, hb, hr, hml, hown, hin0, hts, hlocks, hA, hK, hE⟩ := id C0
  intro x1 x2 x3 x4 x5 x6 h H locs ls hP hD hS hl
  rw [g_Mo_codeOf_J1] at h
  refine lv_iconst (v := (1 : Int32)) hx hb d_Mo_codeOf_47 (by decide) ?_
  refine lv_goto (tgt := 52) hx hb d_Mo_codeOf_48 (by decide) ?_
  exact (w_Mo_codeOf_J2 C0 a0 N n0 f0 x hK_Mo_codeOf_L2) x1 x2 x3 x4 x5 x6 (1 : Int32) h _ _ _ (hP.sub [0] rfl) (hD.sub [0] (by decide) rfl) hS (lv_sub hl [0, 1, 2, 3, 4, 5, 6] rfl)
def g_Mo_codeOf_L2 (n0 : Nat) (f0 : Nat → Int32) (K_Mo_codeOf_L1 : Int32 → Int32 → Int32 → Int32 → Int32 → Option (Int32)) : Nat → Int32 → Int32 → Int32 → Int32 → Int32 → Int32 → Option (Int32)
  | 0, _, _, _, _, _, _ => none
  | n + 1, x1, x2, x3, x4, x5, x6 => (if x2 ≤ x6 then (K_Mo_codeOf_L1 x1 x2 x3 x4 (x5 + (1 : Int32))) else (if x1 + x3 < 0 ∨ n0 ≤ (x1 + x3).toNatClampNeg then none else (if x5 < (f0 (x1 + x3).toNatClampNeg) then (g_Mo_codeOf_J1 n0 f0 (g_Mo_codeOf_L2 n0 f0 K_Mo_codeOf_L1 n) x1 x2 x3 x4 x5 x6) else (if x3 ≤ x6 then (g_Mo_codeOf_J2 n0 f0 (g_Mo_codeOf_L2 n0 f0 K_Mo_codeOf_L1 n) x1 x2 x3 x4 x5 x6 (0 : Int32)) else (g_Mo_codeOf_J1 n0 f0 (g_Mo_codeOf_L2 n0 f0 K_Mo_codeOf_L1 n) x1 x2 x3 x4 x5 x6)))))
set_option maxHeartbeats 4000000 in
set_option maxRecDepth 100000 in
theorem w_Mo_codeOf_L2 {p : Program} {l : Launch} {e : Env} {s : State} {m : MethodId} {args : Array Value} {below : List Frame} {meth : Method} {c : Code} {dC : Nat → ClassId} {dI : Nat → Nat → Nat} {cI cB cZ : ClassId} {tS : Nat} {A : Nat → Prop} (C0 : gz_C p s m args meth c b_Mo_codeOf 8 (some .int) R_Mo "codeOf" gz_W A (dC, dI) vwCl [(cI, .int), (cB, .byte), (cZ, .boolean)] tS) (a0 : Nat) (N : Nat) (n0 : Nat) (f0 : Nat → Int32) (x : Int32) {K_Mo_codeOf_L1 : Int32 → Int32 → Int32 → Int32 → Int32 → Option (Int32)} (hK_Mo_codeOf_L1 : t_Mo_codeOf_L1 p l e s m args below meth c dC dI cI cB cZ tS A a0 N n0 f0 x K_Mo_codeOf_L1) : ∀ n : Nat, t_Mo_codeOf_L2 p l e s m args below meth c dC dI cI cB cZ tS A a0 N n0 f0 x (g_Mo_codeOf_L2 n0 f0 K_Mo_codeOf_L1 n) := by
  obtain ⟨hx, hb, hr, hml, hown, hin0, hts, hlocks, hA, hK, hE⟩ := id C0
  intro n
  induction n with
  | zero =>
    intro x1 x2 x3 x4 x5 x6 h
    cases h
  | succ n ih =>
    intro x1 x2 x3 x4 x5 x6 h H locs ls hP hD hS hl
    rw [g_Mo_codeOf_L2] at h
    refine lv_iload hx hb d_Mo_codeOf_25 (lv_at hl 6 rfl) ?_
    refine lv_iload_n hx hb d_Mo_codeOf_27 rfl (lv_at hl 2 rfl) ?_
    refine lv_icmp_ge (tgt := 87) hx hb d_Mo_codeOf_28 (by decide) (fun c3 => ?_) (fun c3 => ?_)
    · have h := gz_t h c3
      refine lv_iinc (v := x5 + (1 : Int32)) (lv' := [(5, .int (x5 + (1 : Int32))), (0, .ref a0), (1, .int x1), (2, .int x2), (3, .int x3), (4, .int x4), (6, .int x6)]) hx hb d_Mo_codeOf_87 hl (k := 5) rfl rfl (by decide) rfl (fun ls hl => ?_)
      refine lv_goto (tgt := 6) hx hb d_Mo_codeOf_90 (by decide) ?_
      exact hK_Mo_codeOf_L1 x1 x2 x3 x4 (x5 + (1 : Int32)) h _ _ _ (hP.sub [0] rfl) (hD.sub [0] (by decide) rfl) hS (lv_sub hl [1, 2, 3, 4, 5, 0] rfl)
    · have h := gz_f h c3
      refine lv_iload hx hb d_Mo_codeOf_31 (lv_at hl 5 rfl) ?_
      refine lv_aload_n hx hb d_Mo_codeOf_33 rfl (lv_at hl 0 rfl) ?_
      refine lv_iload_n hx hb d_Mo_codeOf_34 rfl (lv_at hl 1 rfl) ?_
      refine lv_iload_n hx hb d_Mo_codeOf_35 rfl (lv_at hl 3 rfl) ?_
      refine lv_iadd hx hb d_Mo_codeOf_36 ?_
      obtain ⟨hi4, h⟩ := gz_n h
      refine va_iald hx hb hK hP 0 0 rfl rfl hi4 d_Mo_codeOf_37 ?_
      refine lv_icmp_lt (tgt := 47) hx hb d_Mo_codeOf_38 (by decide) (fun c5 => ?_) (fun c5 => ?_)
      · have h := gz_t h c5
        exact (w_Mo_codeOf_J1 C0 a0 N n0 f0 x ih) x1 x2 x3 x4 x5 x6 h _ _ _ (hP.sub [0] rfl) (hD.sub [0] (by decide) rfl) hS (lv_sub hl [0, 1, 2, 3, 4, 5, 6] rfl)
      · have h := gz_f h c5
        refine lv_iload hx hb d_Mo_codeOf_41 (lv_at hl 6 rfl) ?_
        refine lv_iload_n hx hb d_Mo_codeOf_43 rfl (lv_at hl 3 rfl) ?_
        refine lv_icmp_ge (tgt := 51) hx hb d_Mo_codeOf_44 (by decide) (fun c6 => ?_) (fun c6 => ?_)
        · have h := gz_t h c6
          refine lv_iconst (v := (0 : Int32)) hx hb d_Mo_codeOf_51 (by decide) ?_
          exact (w_Mo_codeOf_J2 C0 a0 N n0 f0 x ih) x1 x2 x3 x4 x5 x6 (0 : Int32) h _ _ _ (hP.sub [0] rfl) (hD.sub [0] (by decide) rfl) hS (lv_sub hl [0, 1, 2, 3, 4, 5, 6] rfl)
        · have h := gz_f h c6
          exact (w_Mo_codeOf_J1 C0 a0 N n0 f0 x ih) x1 x2 x3 x4 x5 x6 h _ _ _ (hP.sub [0] rfl) (hD.sub [0] (by decide) rfl) hS (lv_sub hl [0, 1, 2, 3, 4, 5, 6] rfl)
def g_Mo_codeOf_L1 (N : Nat) (n0 : Nat) (f0 : Nat → Int32) : Nat → Int32 → Int32 → Int32 → Int32 → Int32 → Option (Int32)
  | 0, _, _, _, _, _ => none
  | n + 1, x1, x2, x3, x4, x5 => (if x1 + x3 < 0 ∨ n0 ≤ (x1 + x3).toNatClampNeg then none else (if (f0 (x1 + x3).toNatClampNeg) < x5 then some (x4) else (g_Mo_codeOf_L2 n0 f0 (g_Mo_codeOf_L1 N n0 f0 n) N x1 x2 x3 ((2 : Int32) * x4) x5 (0 : Int32))))
set_option maxHeartbeats 4000000 in
set_option maxRecDepth 100000 in
theorem w_Mo_codeOf_L1 {p : Program} {l : Launch} {e : Env} {s : State} {m : MethodId} {args : Array Value} {below : List Frame} {meth : Method} {c : Code} {dC : Nat → ClassId} {dI : Nat → Nat → Nat} {cI cB cZ : ClassId} {tS : Nat} {A : Nat → Prop} (C0 : gz_C p s m args meth c b_Mo_codeOf 8 (some .int) R_Mo "codeOf" gz_W A (dC, dI) vwCl [(cI, .int), (cB, .byte), (cZ, .boolean)] tS) (a0 : Nat) (N : Nat) (n0 : Nat) (f0 : Nat → Int32) (x : Int32) : ∀ n : Nat, t_Mo_codeOf_L1 p l e s m args below meth c dC dI cI cB cZ tS A a0 N n0 f0 x (g_Mo_codeOf_L1 N n0 f0 n) := by
  obtain ⟨hx, hb, hr, hml, hown, hin0, hts, hlocks, hA, hK, hE⟩ := id C0
  intro n
  induction n with
  | zero =>
    intro x1 x2 x3 x4 x5 h
    cases h
  | succ n ih =>
    intro x1 x2 x3 x4 x5 h H locs ls hP hD hS hl
    rw [g_Mo_codeOf_L1] at h
    refine lv_iload hx hb d_Mo_codeOf_6 (lv_at hl 5 rfl) ?_
    refine lv_aload_n hx hb d_Mo_codeOf_8 rfl (lv_at hl 0 rfl) ?_
    refine lv_iload_n hx hb d_Mo_codeOf_9 rfl (lv_at hl 1 rfl) ?_
    refine lv_iload_n hx hb d_Mo_codeOf_10 rfl (lv_at hl 3 rfl) ?_
    refine lv_iadd hx hb d_Mo_codeOf_11 ?_
    obtain ⟨hi1, h⟩ := gz_n h
    refine va_iald hx hb hK hP 0 0 rfl rfl hi1 d_Mo_codeOf_12 ?_
    refine lv_icmp_gt (tgt := 93) hx hb d_Mo_codeOf_13 (by decide) (fun c2 => ?_) (fun c2 => ?_)
    · have h := gz_t h c2
      refine lv_iload hx hb d_Mo_codeOf_93 (lv_at hl 4 rfl) ?_
      obtain rfl := Option.some.inj h
      exact W.iret (v := x4) hx hb hr (fun t ht hW => ⟨⟨x4, (), rfl, rfl, by rw [ht]; exact hP.sub [0] rfl, hD.sub [0] (by decide) rfl⟩, hS.F ht⟩) hS.2.2 d_Mo_codeOf_95
    · have h := gz_f h c2
      refine lv_iconst (v := (2 : Int32)) hx hb d_Mo_codeOf_16 (by decide) ?_
      refine lv_iload hx hb d_Mo_codeOf_17 (lv_at hl 4 rfl) ?_
      refine lv_imul hx hb d_Mo_codeOf_19 ?_
      refine lv_istore (lv' := [(4, .int ((2 : Int32) * x4)), (0, .ref a0), (1, .int x1), (2, .int x2), (3, .int x3), (5, .int x5)]) hx hb d_Mo_codeOf_20 hl (by decide) rfl (fun ls hl => ?_)
      refine lv_iconst (v := (0 : Int32)) hx hb d_Mo_codeOf_22 (by decide) ?_
      refine lv_istore (lv' := [(6, .int (0 : Int32)), (4, .int ((2 : Int32) * x4)), (0, .ref a0), (1, .int x1), (2, .int x2), (3, .int x3), (5, .int x5)]) hx hb d_Mo_codeOf_23 hl (by decide) rfl (fun ls hl => ?_)
      exact (w_Mo_codeOf_L2 C0 a0 N n0 f0 x ih N) x1 x2 x3 ((2 : Int32) * x4) x5 (0 : Int32) h _ _ _ (hP.sub [0] rfl) (hD.sub [0] (by decide) rfl) hS (lv_sub hl [2, 3, 4, 5, 1, 6, 0] rfl)
def g_Mo_codeOf_0 (N : Nat) (n0 : Nat) (f0 : Nat → Int32) (x1 : Int32) (x2 : Int32) (x3 : Int32) : Option (Int32) := (g_Mo_codeOf_L1 N n0 f0 N x1 x2 x3 (0 : Int32) (1 : Int32))
set_option maxHeartbeats 4000000 in
set_option maxRecDepth 100000 in
theorem w_Mo_codeOf_0 {p : Program} {l : Launch} {e : Env} {s : State} {m : MethodId} {args : Array Value} {below : List Frame} {meth : Method} {c : Code} {dC : Nat → ClassId} {dI : Nat → Nat → Nat} {cI cB cZ : ClassId} {tS : Nat} {A : Nat → Prop} (C0 : gz_C p s m args meth c b_Mo_codeOf 8 (some .int) R_Mo "codeOf" gz_W A (dC, dI) vwCl [(cI, .int), (cB, .byte), (cZ, .boolean)] tS) (a0 : Nat) (N : Nat) (n0 : Nat) (f0 : Nat → Int32) (x : Int32) : t_Mo_codeOf_0 p l e s m args below meth c dC dI cI cB cZ tS A a0 N n0 f0 x (g_Mo_codeOf_0 N n0 f0) := by
  obtain ⟨hx, hb, hr, hml, hown, hin0, hts, hlocks, hA, hK, hE⟩ := id C0
  intro x1 x2 x3 h H locs ls hP hD hS hl
  rw [g_Mo_codeOf_0] at h
  refine lv_iconst (v := (0 : Int32)) hx hb d_Mo_codeOf_0 (by decide) ?_
  refine lv_istore (lv' := [(4, .int (0 : Int32)), (0, .ref a0), (1, .int x1), (2, .int x2), (3, .int x3)]) hx hb d_Mo_codeOf_1 hl (by decide) rfl (fun ls hl => ?_)
  refine lv_iconst (v := (1 : Int32)) hx hb d_Mo_codeOf_3 (by decide) ?_
  refine lv_istore (lv' := [(5, .int (1 : Int32)), (4, .int (0 : Int32)), (0, .ref a0), (1, .int x1), (2, .int x2), (3, .int x3)]) hx hb d_Mo_codeOf_4 hl (by decide) rfl (fun ls hl => ?_)
  exact (w_Mo_codeOf_L1 C0 a0 N n0 f0 x N) x1 x2 x3 (0 : Int32) (1 : Int32) h _ _ _ (hP.sub [0] rfl) (hD.sub [0] (by decide) rfl) hS (lv_sub hl [2, 3, 4, 5, 1, 0] rfl)
set_option maxHeartbeats 4000000 in
set_option maxRecDepth 100000 in
theorem c_Mo_codeOf (l : Launch) (dC : Nat → ClassId) (dI : Nat → Nat → Nat) (cI cB cZ : ClassId) (tS : Nat) (a0 : Nat) (sz : Nat) (N : Nat) (n0 : Nat) (f0 : Nat → Int32) (x1 : Int32) (x2 : Int32) (x3 : Int32) (x : Int32) (hf : (g_Mo_codeOf_0 N n0 f0 x1 x2 x3) = some x) : Met l y_Mo_codeOf w_Mo_codeOfS rm_Mo_codeOf (gz_Pc [.ref a0, .int x1, .int x2, .int x3] (dC, dI) vwCl [(cI, .int), (cB, .byte), (cZ, .boolean)] tS [(a0, .inl (cI, n0, .inl f0))] sz) (va_Qi (fun r (_ : Unit) => r = x) (gz_B (dC, dI) vwCl (va_A [(a0, .inl (cI, n0, .inl f0))] sz) (e_Mo_codeOf dC dI cI cB cZ a0 N n0 f0 x)) (va_A [(a0, .inl (cI, n0, .inl f0))] sz)) 0 0 (va_A [(a0, .inl (cI, n0, .inl f0))] sz) := by
  refine Met.ofW (cc := b_Mo_codeOf) (maxL := 8) (ret := (some .int)) (by decide) rfl ?_
  intro p e s m args below meth c s₁ B hml hv
  obtain ⟨rfl, hsz, hP, hK, hD0, hE⟩ := hv
  subst hsz
  have hl := lv_entry ([.ref a0, .int x1, .int x2, .int x3]) (n := 8) (Nat.le_of_ble_eq_true rfl)
  rw [lg_entry_eq]
  generalize (lg_sl ([.ref a0, .int x1, .int x2, .int x3]) ++ List.replicate (8 - (lg_sl ([.ref a0, .int x1, .int x2, .int x3])).length) Slot.unset).toArray = ls at hl ⊢
  have C0 : gz_C p s m _ meth c b_Mo_codeOf 8 (some .int) R_Mo "codeOf" gz_W _ (dC, dI) vwCl [(cI, .int), (cB, .byte), (cZ, .boolean)] tS := ⟨B.exec, B.bytes, B.returns, hml, findClass_of_methodNamed B.named, (name_of_methodNamed B.named B.method).1, fun w h => atoms_spec (ws := w_Mo_codeOfS) B.pre w (List.mem_cons_of_mem _ h), B.notSynchronized, fun q h => Or.inr h, hK, hE⟩
  exact w_Mo_codeOf_0 C0 a0 N n0 f0 x x1 x2 x3 hf _ _ _ hP (hD0.self (sz := s.heap.size)) va_S.rf (lv_sub hl [0, 1, 2, 3] rfl)
abbrev rm_Mo_begins : Room := { frames := 0, cells := 0, slots := 0, locals := 0 }
abbrev e_Mo_begins (dC : Nat → ClassId) (dI : Nat → Nat → Nat) (cI cB cZ : ClassId) (a0 : Nat) (N : Nat) (n0 : Nat) (f0 : Nat → Int32) (x : Int32) (u : Unit) : va_W := [(a0, .inl (cI, n0, .inl f0))]
abbrev q_Mo_begins (below : List Frame) (args : Array Value) (s : State) (dC : Nat → ClassId) (dI : Nat → Nat → Nat) (cI cB cZ : ClassId) (A : Nat → Prop) (a0 : Nat) (N : Nat) (n0 : Nat) (f0 : Nat → Int32) (x : Int32) : State → Prop := MQ below (va_Qi (fun r (_ : Unit) => r = x) (gz_B (dC, dI) vwCl A (e_Mo_begins dC dI cI cB cZ a0 N n0 f0 x)) A) args s 0 0 A
def t_Mo_begins_L1 (p : Program) (l : Launch) (e : Env) (s : State) (m : MethodId) (args : Array Value) (below : List Frame) (meth : Method) (c : Code) (dC : Nat → ClassId) (dI : Nat → Nat → Nat) (cI cB cZ : ClassId) (tS : Nat) (A : Nat → Prop) (a0 : Nat) (N : Nat) (n0 : Nat) (f0 : Nat → Int32) (x : Int32) (F : Int32 → Int32 → Int32 → Int32 → Int32 → Int32 → Option (Int32)) : Prop :=
  ∀ (x1 : Int32) (x2 : Int32) (x3 : Int32) (x4 : Int32) (x5 : Int32) (x6 : Int32), F x1 x2 x3 x4 x5 x6 = some x → ∀ (H : Heap) (locs : List Loc) (ls : Array Slot), va_P (dC, dI) vwCl [(a0, .inl (cI, n0, .inl f0))] H → va_D A [(a0, .inl (cI, n0, .inl f0))] → va_S A s.heap H locs → lv_has ls 7 [(0, .ref a0), (1, .int x1), (2, .int x2), (3, .int x3), (4, .int x4), (5, .int x5), (6, .int x6)] → W p l e rm_Mo_begins s m args below meth c H locs 0 0 (q_Mo_begins below args s dC dI cI cB cZ A a0 N n0 f0 x) (F0 m 6 ls [])
def t_Mo_begins_0 (p : Program) (l : Launch) (e : Env) (s : State) (m : MethodId) (args : Array Value) (below : List Frame) (meth : Method) (c : Code) (dC : Nat → ClassId) (dI : Nat → Nat → Nat) (cI cB cZ : ClassId) (tS : Nat) (A : Nat → Prop) (a0 : Nat) (N : Nat) (n0 : Nat) (f0 : Nat → Int32) (x : Int32) (F : Int32 → Int32 → Int32 → Int32 → Option (Int32)) : Prop :=
  ∀ (x1 : Int32) (x2 : Int32) (x3 : Int32) (x4 : Int32), F x1 x2 x3 x4 = some x → ∀ (H : Heap) (locs : List Loc) (ls : Array Slot), va_P (dC, dI) vwCl [(a0, .inl (cI, n0, .inl f0))] H → va_D A [(a0, .inl (cI, n0, .inl f0))] → va_S A s.heap H locs → lv_has ls 7 [(0, .ref a0), (1, .int x1), (2, .int x2), (3, .int x3), (4, .int x4)] → W p l e rm_Mo_begins s m args below meth c H locs 0 0 (q_Mo_begins below args s dC dI cI cB cZ A a0 N n0 f0 x) (F0 m 0 ls [])
def g_Mo_begins_L1 (n0 : Nat) (f0 : Nat → Int32) : Nat → Int32 → Int32 → Int32 → Int32 → Int32 → Int32 → Option (Int32)
  | 0, _, _, _, _, _, _ => none
  | n + 1, x1, x2, x3, x4, x5, x6 => (if (x1 + x2) ≤ x6 then (if x5 ≤ (x4 <<< (((15 : Int32) - x3) &&& 31)) then some ((0 : Int32)) else some ((1 : Int32))) else (if x6 < 0 ∨ n0 ≤ x6.toNatClampNeg then none else (if (f0 x6.toNatClampNeg) ≤ x3 then (g_Mo_begins_L1 n0 f0 n x1 x2 x3 x4 x5 (x6 + (1 : Int32))) else (g_Mo_begins_L1 n0 f0 n x1 x2 x3 x4 (x5 + ((1 : Int32) <<< (((15 : Int32) - (f0 x6.toNatClampNeg)) &&& 31))) (x6 + (1 : Int32))))))
set_option maxHeartbeats 4000000 in
set_option maxRecDepth 100000 in
theorem w_Mo_begins_L1 {p : Program} {l : Launch} {e : Env} {s : State} {m : MethodId} {args : Array Value} {below : List Frame} {meth : Method} {c : Code} {dC : Nat → ClassId} {dI : Nat → Nat → Nat} {cI cB cZ : ClassId} {tS : Nat} {A : Nat → Prop} (C0 : gz_C p s m args meth c b_Mo_begins 7 (some .boolean) R_Mo "begins" gz_W A (dC, dI) vwCl [(cI, .int), (cB, .byte), (cZ, .boolean)] tS) (a0 : Nat) (N : Nat) (n0 : Nat) (f0 : Nat → Int32) (x : Int32) : ∀ n : Nat, t_Mo_begins_L1 p l e s m args below meth c dC dI cI cB cZ tS A a0 N n0 f0 x (g_Mo_begins_L1 n0 f0 n) := by
  obtain ⟨hx, hb, hr, hml, hown, hin0, hts, hlocks, hA, hK, hE⟩ := id C0
  intro n
  induction n with
  | zero =>
    intro x1 x2 x3 x4 x5 x6 h
    cases h
  | succ n ih =>
    intro x1 x2 x3 x4 x5 x6 h H locs ls hP hD hS hl
    rw [g_Mo_begins_L1] at h
    refine lv_iload hx hb d_Mo_begins_6 (lv_at hl 6 rfl) ?_
    refine lv_iload_n hx hb d_Mo_begins_8 rfl (lv_at hl 1 rfl) ?_
    refine lv_iload_n hx hb d_Mo_begins_9 rfl (lv_at hl 2 rfl) ?_
    refine lv_iadd hx hb d_Mo_begins_10 ?_
    refine lv_icmp_ge (tgt := 47) hx hb d_Mo_begins_11 (by decide) (fun c1 => ?_) (fun c1 => ?_)
    · have h := gz_t h c1
      refine lv_iload hx hb d_Mo_begins_47 (lv_at hl 4 rfl) ?_
      refine lv_bipush (v := (15 : Int32)) hx hb d_Mo_begins_49 (by decide) ?_
      refine lv_iload_n hx hb d_Mo_begins_51 rfl (lv_at hl 3 rfl) ?_
      refine lv_isub hx hb d_Mo_begins_52 ?_
      refine lv_ishl hx hb d_Mo_begins_53 ?_
      refine lv_iload hx hb d_Mo_begins_54 (lv_at hl 5 rfl) ?_
      refine lv_icmp_ge (tgt := 63) hx hb d_Mo_begins_56 (by decide) (fun c2 => ?_) (fun c2 => ?_)
      · have h := gz_t h c2
        refine lv_iconst (v := (0 : Int32)) hx hb d_Mo_begins_63 (by decide) ?_
        obtain rfl := Option.some.inj h
        exact W.zret (v := (0 : Int32)) hx hb hr rfl (fun t ht hW => ⟨⟨(0 : Int32), (), rfl, rfl, by rw [ht]; exact hP.sub [0] rfl, hD.sub [0] (by decide) rfl⟩, hS.F ht⟩) hS.2.2 d_Mo_begins_64
      · have h := gz_f h c2
        refine lv_iconst (v := (1 : Int32)) hx hb d_Mo_begins_59 (by decide) ?_
        refine lv_goto (tgt := 64) hx hb d_Mo_begins_60 (by decide) ?_
        obtain rfl := Option.some.inj h
        exact W.zret (v := (1 : Int32)) hx hb hr rfl (fun t ht hW => ⟨⟨(1 : Int32), (), rfl, rfl, by rw [ht]; exact hP.sub [0] rfl, hD.sub [0] (by decide) rfl⟩, hS.F ht⟩) hS.2.2 d_Mo_begins_64
    · have h := gz_f h c1
      refine lv_aload_n hx hb d_Mo_begins_14 rfl (lv_at hl 0 rfl) ?_
      refine lv_iload hx hb d_Mo_begins_15 (lv_at hl 6 rfl) ?_
      obtain ⟨hi3, h⟩ := gz_n h
      refine va_iald hx hb hK hP 0 0 rfl rfl hi3 d_Mo_begins_17 ?_
      refine lv_iload_n hx hb d_Mo_begins_18 rfl (lv_at hl 3 rfl) ?_
      refine lv_icmp_le (tgt := 37) hx hb d_Mo_begins_19 (by decide) (fun c4 => ?_) (fun c4 => ?_)
      · have h := gz_t h c4
        refine lv_iload hx hb d_Mo_begins_37 (lv_at hl 5 rfl) ?_
        refine lv_istore (lv' := [(5, .int x5), (0, .ref a0), (1, .int x1), (2, .int x2), (3, .int x3), (4, .int x4), (6, .int x6)]) hx hb d_Mo_begins_39 hl (by decide) rfl (fun ls hl => ?_)
        refine lv_iinc (v := x6 + (1 : Int32)) (lv' := [(6, .int (x6 + (1 : Int32))), (5, .int x5), (0, .ref a0), (1, .int x1), (2, .int x2), (3, .int x3), (4, .int x4)]) hx hb d_Mo_begins_41 hl (k := 6) rfl rfl (by decide) rfl (fun ls hl => ?_)
        refine lv_goto (tgt := 6) hx hb d_Mo_begins_44 (by decide) ?_
        exact ih x1 x2 x3 x4 x5 (x6 + (1 : Int32)) h _ _ _ (hP.sub [0] rfl) (hD.sub [0] (by decide) rfl) hS (lv_sub hl [2, 3, 4, 5, 6, 1, 0] rfl)
      · have h := gz_f h c4
        refine lv_iload hx hb d_Mo_begins_22 (lv_at hl 5 rfl) ?_
        refine lv_iconst (v := (1 : Int32)) hx hb d_Mo_begins_24 (by decide) ?_
        refine lv_bipush (v := (15 : Int32)) hx hb d_Mo_begins_25 (by decide) ?_
        refine lv_aload_n hx hb d_Mo_begins_27 rfl (lv_at hl 0 rfl) ?_
        refine lv_iload hx hb d_Mo_begins_28 (lv_at hl 6 rfl) ?_
        refine va_iald hx hb hK hP 0 0 rfl rfl hi3 d_Mo_begins_30 ?_
        refine lv_isub hx hb d_Mo_begins_31 ?_
        refine lv_ishl hx hb d_Mo_begins_32 ?_
        refine lv_iadd hx hb d_Mo_begins_33 ?_
        refine lv_goto (tgt := 39) hx hb d_Mo_begins_34 (by decide) ?_
        refine lv_istore (lv' := [(5, .int (x5 + ((1 : Int32) <<< (((15 : Int32) - (f0 x6.toNatClampNeg)) &&& 31)))), (0, .ref a0), (1, .int x1), (2, .int x2), (3, .int x3), (4, .int x4), (6, .int x6)]) hx hb d_Mo_begins_39 hl (by decide) rfl (fun ls hl => ?_)
        refine lv_iinc (v := x6 + (1 : Int32)) (lv' := [(6, .int (x6 + (1 : Int32))), (5, .int (x5 + ((1 : Int32) <<< (((15 : Int32) - (f0 x6.toNatClampNeg)) &&& 31)))), (0, .ref a0), (1, .int x1), (2, .int x2), (3, .int x3), (4, .int x4)]) hx hb d_Mo_begins_41 hl (k := 6) rfl rfl (by decide) rfl (fun ls hl => ?_)
        refine lv_goto (tgt := 6) hx hb d_Mo_begins_44 (by decide) ?_
        exact ih x1 x2 x3 x4 (x5 + ((1 : Int32) <<< (((15 : Int32) - (f0 x6.toNatClampNeg)) &&& 31))) (x6 + (1 : Int32)) h _ _ _ (hP.sub [0] rfl) (hD.sub [0] (by decide) rfl) hS (lv_sub hl [2, 3, 4, 5, 6, 1, 0] rfl)
def g_Mo_begins_0 (N : Nat) (n0 : Nat) (f0 : Nat → Int32) (x1 : Int32) (x2 : Int32) (x3 : Int32) (x4 : Int32) : Option (Int32) := (g_Mo_begins_L1 n0 f0 N x1 x2 x3 x4 (0 : Int32) x1)
set_option maxHeartbeats 4000000 in
set_option maxRecDepth 100000 in
theorem w_Mo_begins_0 {p : Program} {l : Launch} {e : Env} {s : State} {m : MethodId} {args : Array Value} {below : List Frame} {meth : Method} {c : Code} {dC : Nat → ClassId} {dI : Nat → Nat → Nat} {cI cB cZ : ClassId} {tS : Nat} {A : Nat → Prop} (C0 : gz_C p s m args meth c b_Mo_begins 7 (some .boolean) R_Mo "begins" gz_W A (dC, dI) vwCl [(cI, .int), (cB, .byte), (cZ, .boolean)] tS) (a0 : Nat) (N : Nat) (n0 : Nat) (f0 : Nat → Int32) (x : Int32) : t_Mo_begins_0 p l e s m args below meth c dC dI cI cB cZ tS A a0 N n0 f0 x (g_Mo_begins_0 N n0 f0) := by
  obtain ⟨hx, hb, hr, hml, hown, hin0, hts, hlocks, hA, hK, hE⟩ := id C0
  intro x1 x2 x3 x4 h H locs ls hP hD hS hl
  rw [g_Mo_begins_0] at h
  refine lv_iconst (v := (0 : Int32)) hx hb d_Mo_begins_0 (by decide) ?_
  refine lv_istore (lv' := [(5, .int (0 : Int32)), (0, .ref a0), (1, .int x1), (2, .int x2), (3, .int x3), (4, .int x4)]) hx hb d_Mo_begins_1 hl (by decide) rfl (fun ls hl => ?_)
  refine lv_iload_n hx hb d_Mo_begins_3 rfl (lv_at hl 2 rfl) ?_
  refine lv_istore (lv' := [(6, .int x1), (5, .int (0 : Int32)), (0, .ref a0), (1, .int x1), (2, .int x2), (3, .int x3), (4, .int x4)]) hx hb d_Mo_begins_4 hl (by decide) rfl (fun ls hl => ?_)
  exact (w_Mo_begins_L1 C0 a0 N n0 f0 x N) x1 x2 x3 x4 (0 : Int32) x1 h _ _ _ (hP.sub [0] rfl) (hD.sub [0] (by decide) rfl) hS (lv_sub hl [2, 3, 4, 5, 6, 1, 0] rfl)
set_option maxHeartbeats 4000000 in
set_option maxRecDepth 100000 in
theorem c_Mo_begins (l : Launch) (dC : Nat → ClassId) (dI : Nat → Nat → Nat) (cI cB cZ : ClassId) (tS : Nat) (a0 : Nat) (sz : Nat) (N : Nat) (n0 : Nat) (f0 : Nat → Int32) (x1 : Int32) (x2 : Int32) (x3 : Int32) (x4 : Int32) (x : Int32) (hf : (g_Mo_begins_0 N n0 f0 x1 x2 x3 x4) = some x) : Met l y_Mo_begins w_Mo_beginsS rm_Mo_begins (gz_Pc [.ref a0, .int x1, .int x2, .int x3, .int x4] (dC, dI) vwCl [(cI, .int), (cB, .byte), (cZ, .boolean)] tS [(a0, .inl (cI, n0, .inl f0))] sz) (va_Qi (fun r (_ : Unit) => r = x) (gz_B (dC, dI) vwCl (va_A [(a0, .inl (cI, n0, .inl f0))] sz) (e_Mo_begins dC dI cI cB cZ a0 N n0 f0 x)) (va_A [(a0, .inl (cI, n0, .inl f0))] sz)) 0 0 (va_A [(a0, .inl (cI, n0, .inl f0))] sz) := by
  refine Met.ofW (cc := b_Mo_begins) (maxL := 7) (ret := (some .boolean)) (by decide) rfl ?_
  intro p e s m args below meth c s₁ B hml hv
  obtain ⟨rfl, hsz, hP, hK, hD0, hE⟩ := hv
  subst hsz
  have hl := lv_entry ([.ref a0, .int x1, .int x2, .int x3, .int x4]) (n := 7) (Nat.le_of_ble_eq_true rfl)
  rw [lg_entry_eq]
  generalize (lg_sl ([.ref a0, .int x1, .int x2, .int x3, .int x4]) ++ List.replicate (7 - (lg_sl ([.ref a0, .int x1, .int x2, .int x3, .int x4])).length) Slot.unset).toArray = ls at hl ⊢
  have C0 : gz_C p s m _ meth c b_Mo_begins 7 (some .boolean) R_Mo "begins" gz_W _ (dC, dI) vwCl [(cI, .int), (cB, .byte), (cZ, .boolean)] tS := ⟨B.exec, B.bytes, B.returns, hml, findClass_of_methodNamed B.named, (name_of_methodNamed B.named B.method).1, fun w h => atoms_spec (ws := w_Mo_beginsS) B.pre w (List.mem_cons_of_mem _ h), B.notSynchronized, fun q h => Or.inr h, hK, hE⟩
  exact w_Mo_begins_0 C0 a0 N n0 f0 x x1 x2 x3 x4 hf _ _ _ hP (hD0.self (sz := s.heap.size)) va_S.rf (lv_sub hl [0, 1, 2, 3, 4] rfl)
abbrev rm_Mo_nth : Room := { frames := 0, cells := 0, slots := 0, locals := 0 }
abbrev e_Mo_nth (dC : Nat → ClassId) (dI : Nat → Nat → Nat) (cI cB cZ : ClassId) (a0 : Nat) (N : Nat) (n0 : Nat) (f0 : Nat → Int32) (x : Int32) (u : Unit) : va_W := [(a0, .inl (cI, n0, .inl f0))]
abbrev q_Mo_nth (below : List Frame) (args : Array Value) (s : State) (dC : Nat → ClassId) (dI : Nat → Nat → Nat) (cI cB cZ : ClassId) (A : Nat → Prop) (a0 : Nat) (N : Nat) (n0 : Nat) (f0 : Nat → Int32) (x : Int32) : State → Prop := MQ below (va_Qi (fun r (_ : Unit) => r = x) (gz_B (dC, dI) vwCl A (e_Mo_nth dC dI cI cB cZ a0 N n0 f0 x)) A) args s 0 0 A
def t_Mo_nth_L1 (p : Program) (l : Launch) (e : Env) (s : State) (m : MethodId) (args : Array Value) (below : List Frame) (meth : Method) (c : Code) (dC : Nat → ClassId) (dI : Nat → Nat → Nat) (cI cB cZ : ClassId) (tS : Nat) (A : Nat → Prop) (a0 : Nat) (N : Nat) (n0 : Nat) (f0 : Nat → Int32) (x : Int32) (F : Int32 → Int32 → Int32 → Int32 → Int32 → Option (Int32)) : Prop :=
  ∀ (x1 : Int32) (x2 : Int32) (x3 : Int32) (x5 : Int32) (x6 : Int32), F x1 x2 x3 x5 x6 = some x → ∀ (H : Heap) (locs : List Loc) (ls : Array Slot), va_P (dC, dI) vwCl [(a0, .inl (cI, n0, .inl f0))] H → va_D A [(a0, .inl (cI, n0, .inl f0))] → va_S A s.heap H locs → lv_has ls 7 [(0, .ref a0), (1, .int x1), (2, .int x2), (3, .int x3), (5, .int x5), (6, .int x6)] → W p l e rm_Mo_nth s m args below meth c H locs 0 0 (q_Mo_nth below args s dC dI cI cB cZ A a0 N n0 f0 x) (F0 m 7 ls [])
def t_Mo_nth_0 (p : Program) (l : Launch) (e : Env) (s : State) (m : MethodId) (args : Array Value) (below : List Frame) (meth : Method) (c : Code) (dC : Nat → ClassId) (dI : Nat → Nat → Nat) (cI cB cZ : ClassId) (tS : Nat) (A : Nat → Prop) (a0 : Nat) (N : Nat) (n0 : Nat) (f0 : Nat → Int32) (x : Int32) (F : Int32 → Int32 → Int32 → Int32 → Option (Int32)) : Prop :=
  ∀ (x1 : Int32) (x2 : Int32) (x3 : Int32) (x4 : Int32), F x1 x2 x3 x4 = some x → ∀ (H : Heap) (locs : List Loc) (ls : Array Slot), va_P (dC, dI) vwCl [(a0, .inl (cI, n0, .inl f0))] H → va_D A [(a0, .inl (cI, n0, .inl f0))] → va_S A s.heap H locs → lv_has ls 7 [(0, .ref a0), (1, .int x1), (2, .int x2), (3, .int x3), (4, .int x4)] → W p l e rm_Mo_nth s m args below meth c H locs 0 0 (q_Mo_nth below args s dC dI cI cB cZ A a0 N n0 f0 x) (F0 m 0 ls [])
def g_Mo_nth_L1 (n0 : Nat) (f0 : Nat → Int32) : Nat → Int32 → Int32 → Int32 → Int32 → Int32 → Option (Int32)
  | 0, _, _, _, _, _ => none
  | n + 1, x1, x2, x3, x5, x6 => (if x2 ≤ x6 then some ((-1 : Int32)) else (if x1 + x6 < 0 ∨ n0 ≤ (x1 + x6).toNatClampNeg then none else (if (f0 (x1 + x6).toNatClampNeg) = x3 then (if x5 = 0 then some (x6) else (g_Mo_nth_L1 n0 f0 n x1 x2 x3 (x5 + (-1 : Int32)) (x6 + (1 : Int32)))) else (g_Mo_nth_L1 n0 f0 n x1 x2 x3 x5 (x6 + (1 : Int32))))))
set_option maxHeartbeats 4000000 in
set_option maxRecDepth 100000 in
theorem w_Mo_nth_L1 {p : Program} {l : Launch} {e : Env} {s : State} {m : MethodId} {args : Array Value} {below : List Frame} {meth : Method} {c : Code} {dC : Nat → ClassId} {dI : Nat → Nat → Nat} {cI cB cZ : ClassId} {tS : Nat} {A : Nat → Prop} (C0 : gz_C p s m args meth c b_Mo_nth 7 (some .int) R_Mo "nth" gz_W A (dC, dI) vwCl [(cI, .int), (cB, .byte), (cZ, .boolean)] tS) (a0 : Nat) (N : Nat) (n0 : Nat) (f0 : Nat → Int32) (x : Int32) : ∀ n : Nat, t_Mo_nth_L1 p l e s m args below meth c dC dI cI cB cZ tS A a0 N n0 f0 x (g_Mo_nth_L1 n0 f0 n) := by
  obtain ⟨hx, hb, hr, hml, hown, hin0, hts, hlocks, hA, hK, hE⟩ := id C0
  intro n
  induction n with
  | zero =>
    intro x1 x2 x3 x5 x6 h
    cases h
  | succ n ih =>
    intro x1 x2 x3 x5 x6 h H locs ls hP hD hS hl
    rw [g_Mo_nth_L1] at h
    refine lv_iload hx hb d_Mo_nth_7 (lv_at hl 5 rfl) ?_
    refine lv_iload_n hx hb d_Mo_nth_9 rfl (lv_at hl 2 rfl) ?_
    refine lv_icmp_ge (tgt := 40) hx hb d_Mo_nth_10 (by decide) (fun c1 => ?_) (fun c1 => ?_)
    · have h := gz_t h c1
      refine lv_iconst (v := (-1 : Int32)) hx hb d_Mo_nth_40 (by decide) ?_
      obtain rfl := Option.some.inj h
      exact W.iret (v := (-1 : Int32)) hx hb hr (fun t ht hW => ⟨⟨(-1 : Int32), (), rfl, rfl, by rw [ht]; exact hP.sub [0] rfl, hD.sub [0] (by decide) rfl⟩, hS.F ht⟩) hS.2.2 d_Mo_nth_41
    · have h := gz_f h c1
      refine lv_aload_n hx hb d_Mo_nth_13 rfl (lv_at hl 0 rfl) ?_
      refine lv_iload_n hx hb d_Mo_nth_14 rfl (lv_at hl 1 rfl) ?_
      refine lv_iload hx hb d_Mo_nth_15 (lv_at hl 5 rfl) ?_
      refine lv_iadd hx hb d_Mo_nth_17 ?_
      obtain ⟨hi2, h⟩ := gz_n h
      refine va_iald hx hb hK hP 0 0 rfl rfl hi2 d_Mo_nth_18 ?_
      refine lv_iload_n hx hb d_Mo_nth_19 rfl (lv_at hl 3 rfl) ?_
      refine lv_icmp_ne (tgt := 34) hx hb d_Mo_nth_20 (by decide) (fun c3 => ?_) (fun c3 => ?_)
      · have h := gz_f h c3
        refine lv_iinc (v := x6 + (1 : Int32)) (lv' := [(6, .int (x6 + (1 : Int32))), (0, .ref a0), (1, .int x1), (2, .int x2), (3, .int x3), (5, .int x5)]) hx hb d_Mo_nth_34 hl (k := 5) rfl rfl (by decide) rfl (fun ls hl => ?_)
        refine lv_goto (tgt := 7) hx hb d_Mo_nth_37 (by decide) ?_
        exact ih x1 x2 x3 x5 (x6 + (1 : Int32)) h _ _ _ (hP.sub [0] rfl) (hD.sub [0] (by decide) rfl) hS (lv_sub hl [1, 2, 3, 4, 5, 0] rfl)
      · have h := gz_t h c3
        refine lv_iload hx hb d_Mo_nth_23 (lv_at hl 4 rfl) ?_
        refine lv_if_ne (tgt := 31) hx hb d_Mo_nth_25 (by decide) (fun c4 => ?_) (fun c4 => ?_)
        · have h := gz_f h c4
          refine lv_iinc (v := x5 + (-1 : Int32)) (lv' := [(5, .int (x5 + (-1 : Int32))), (0, .ref a0), (1, .int x1), (2, .int x2), (3, .int x3), (6, .int x6)]) hx hb d_Mo_nth_31 hl (k := 4) rfl rfl (by decide) rfl (fun ls hl => ?_)
          refine lv_iinc (v := x6 + (1 : Int32)) (lv' := [(6, .int (x6 + (1 : Int32))), (5, .int (x5 + (-1 : Int32))), (0, .ref a0), (1, .int x1), (2, .int x2), (3, .int x3)]) hx hb d_Mo_nth_34 hl (k := 5) rfl rfl (by decide) rfl (fun ls hl => ?_)
          refine lv_goto (tgt := 7) hx hb d_Mo_nth_37 (by decide) ?_
          exact ih x1 x2 x3 (x5 + (-1 : Int32)) (x6 + (1 : Int32)) h _ _ _ (hP.sub [0] rfl) (hD.sub [0] (by decide) rfl) hS (lv_sub hl [2, 3, 4, 5, 1, 0] rfl)
        · have h := gz_t h c4
          refine lv_iload hx hb d_Mo_nth_28 (lv_at hl 5 rfl) ?_
          obtain rfl := Option.some.inj h
          exact W.iret (v := x6) hx hb hr (fun t ht hW => ⟨⟨x6, (), rfl, rfl, by rw [ht]; exact hP.sub [0] rfl, hD.sub [0] (by decide) rfl⟩, hS.F ht⟩) hS.2.2 d_Mo_nth_30
def g_Mo_nth_0 (N : Nat) (n0 : Nat) (f0 : Nat → Int32) (x1 : Int32) (x2 : Int32) (x3 : Int32) (x4 : Int32) : Option (Int32) := (g_Mo_nth_L1 n0 f0 N x1 x2 x3 x4 (0 : Int32))
set_option maxHeartbeats 4000000 in
set_option maxRecDepth 100000 in
theorem w_Mo_nth_0 {p : Program} {l : Launch} {e : Env} {s : State} {m : MethodId} {args : Array Value} {below : List Frame} {meth : Method} {c : Code} {dC : Nat → ClassId} {dI : Nat → Nat → Nat} {cI cB cZ : ClassId} {tS : Nat} {A : Nat → Prop} (C0 : gz_C p s m args meth c b_Mo_nth 7 (some .int) R_Mo "nth" gz_W A (dC, dI) vwCl [(cI, .int), (cB, .byte), (cZ, .boolean)] tS) (a0 : Nat) (N : Nat) (n0 : Nat) (f0 : Nat → Int32) (x : Int32) : t_Mo_nth_0 p l e s m args below meth c dC dI cI cB cZ tS A a0 N n0 f0 x (g_Mo_nth_0 N n0 f0) := by
  obtain ⟨hx, hb, hr, hml, hown, hin0, hts, hlocks, hA, hK, hE⟩ := id C0
  intro x1 x2 x3 x4 h H locs ls hP hD hS hl
  rw [g_Mo_nth_0] at h
  refine lv_iload hx hb d_Mo_nth_0 (lv_at hl 4 rfl) ?_
  refine lv_istore (lv' := [(5, .int x4), (0, .ref a0), (1, .int x1), (2, .int x2), (3, .int x3), (4, .int x4)]) hx hb d_Mo_nth_2 hl (by decide) rfl (fun ls hl => ?_)
  refine lv_iconst (v := (0 : Int32)) hx hb d_Mo_nth_4 (by decide) ?_
  refine lv_istore (lv' := [(6, .int (0 : Int32)), (5, .int x4), (0, .ref a0), (1, .int x1), (2, .int x2), (3, .int x3), (4, .int x4)]) hx hb d_Mo_nth_5 hl (by decide) rfl (fun ls hl => ?_)
  exact (w_Mo_nth_L1 C0 a0 N n0 f0 x N) x1 x2 x3 x4 (0 : Int32) h _ _ _ (hP.sub [0] rfl) (hD.sub [0] (by decide) rfl) hS (lv_sub hl [2, 3, 4, 5, 1, 0] rfl)
set_option maxHeartbeats 4000000 in
set_option maxRecDepth 100000 in
theorem c_Mo_nth (l : Launch) (dC : Nat → ClassId) (dI : Nat → Nat → Nat) (cI cB cZ : ClassId) (tS : Nat) (a0 : Nat) (sz : Nat) (N : Nat) (n0 : Nat) (f0 : Nat → Int32) (x1 : Int32) (x2 : Int32) (x3 : Int32) (x4 : Int32) (x : Int32) (hf : (g_Mo_nth_0 N n0 f0 x1 x2 x3 x4) = some x) : Met l y_Mo_nth w_Mo_nthS rm_Mo_nth (gz_Pc [.ref a0, .int x1, .int x2, .int x3, .int x4] (dC, dI) vwCl [(cI, .int), (cB, .byte), (cZ, .boolean)] tS [(a0, .inl (cI, n0, .inl f0))] sz) (va_Qi (fun r (_ : Unit) => r = x) (gz_B (dC, dI) vwCl (va_A [(a0, .inl (cI, n0, .inl f0))] sz) (e_Mo_nth dC dI cI cB cZ a0 N n0 f0 x)) (va_A [(a0, .inl (cI, n0, .inl f0))] sz)) 0 0 (va_A [(a0, .inl (cI, n0, .inl f0))] sz) := by
  refine Met.ofW (cc := b_Mo_nth) (maxL := 7) (ret := (some .int)) (by decide) rfl ?_
  intro p e s m args below meth c s₁ B hml hv
  obtain ⟨rfl, hsz, hP, hK, hD0, hE⟩ := hv
  subst hsz
  have hl := lv_entry ([.ref a0, .int x1, .int x2, .int x3, .int x4]) (n := 7) (Nat.le_of_ble_eq_true rfl)
  rw [lg_entry_eq]
  generalize (lg_sl ([.ref a0, .int x1, .int x2, .int x3, .int x4]) ++ List.replicate (7 - (lg_sl ([.ref a0, .int x1, .int x2, .int x3, .int x4])).length) Slot.unset).toArray = ls at hl ⊢
  have C0 : gz_C p s m _ meth c b_Mo_nth 7 (some .int) R_Mo "nth" gz_W _ (dC, dI) vwCl [(cI, .int), (cB, .byte), (cZ, .boolean)] tS := ⟨B.exec, B.bytes, B.returns, hml, findClass_of_methodNamed B.named, (name_of_methodNamed B.named B.method).1, fun w h => atoms_spec (ws := w_Mo_nthS) B.pre w (List.mem_cons_of_mem _ h), B.notSynchronized, fun q h => Or.inr h, hK, hE⟩
  exact w_Mo_nth_0 C0 a0 N n0 f0 x x1 x2 x3 x4 hf _ _ _ hP (hD0.self (sz := s.heap.size)) va_S.rf (lv_sub hl [0, 1, 2, 3, 4] rfl)
