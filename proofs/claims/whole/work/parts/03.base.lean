theorem gz_good {w : Cond} (h : w ∈ gz_W) : w ∈ gz_W ∧ ((w.onTables && w.keeps) = true ∨ ∃ ty, w = .arrayClass ty) := ⟨h, good_of_word (List.mem_filter.mp h).2⟩
theorem gz_gC {y : MethodName} {b : ByteArray} {n : Nat} {r : Option FieldType} (h : (Cond.code y b n r) ∈ gz_W) : GoodIn gz_W (.code y b n r :: gz_W) := fun w hw => (List.mem_cons.mp hw).elim (fun e => gz_good (e ▸ h)) (fun e => gz_good e)
theorem gz_gV {own C : String} {i : Nat} {y : MethodName} {b : ByteArray} {n : Nat} {r : Option FieldType} (h1 : (Cond.methodLink own i y) ∈ gz_W) (h2 : (Cond.instanceMethod y) ∈ gz_W) (h3 : (Cond.selects C y y) ∈ gz_W) (h4 : (Cond.initialized C) ∈ gz_W) (h5 : (Cond.code y b n r) ∈ gz_W) : GoodIn gz_W (wsV own i C y (.code y b n r :: gz_W)) := by
  intro w hw
  rcases List.mem_append.mp hw with hw | hw
  · rcases List.mem_cons.mp hw with rfl | hw
    · exact gz_good h1
    · rcases List.mem_cons.mp hw with rfl | hw
      · exact gz_good h2
      · rcases List.mem_cons.mp hw with rfl | hw
        · exact gz_good h3
        · rcases List.mem_cons.mp hw with rfl | hw
          · exact gz_good h4
          · cases hw
  · exact gz_gC h5 w hw
theorem gz_gS {own : String} {i : Nat} {y : MethodName} {b : ByteArray} {n : Nat} {r : Option FieldType} (h1 : (Cond.methodLink own i y) ∈ gz_W) (h2 : (Cond.static y) ∈ gz_W) (h4 : (Cond.initialized y.cls) ∈ gz_W) (h5 : (Cond.code y b n r) ∈ gz_W) : GoodIn gz_W (va_wsS own i y (.code y b n r :: gz_W)) := by
  intro w hw
  rcases List.mem_append.mp hw with hw | hw
  · rcases List.mem_cons.mp hw with rfl | hw
    · exact gz_good h1
    · rcases List.mem_cons.mp hw with rfl | hw
      · exact gz_good h2
      · rcases List.mem_cons.mp hw with rfl | hw
        · exact gz_good h4
        · cases hw
  · exact gz_gC h5 w hw
theorem gz_t {α : Type} {c : Prop} [Decidable c] {a b r : α} (h : (if c then a else b) = r) (hc : c) : a = r := (if_pos hc).symm.trans h
theorem gz_f {α : Type} {c : Prop} [Decidable c] {a b r : α} (h : (if c then a else b) = r) (hc : ¬ c) : b = r := (if_neg hc).symm.trans h
theorem gz_n {α : Type} {c : Prop} [Decidable c] {a : Option α} {x : α} (h : (if c then none else a) = some x) : ¬ c ∧ a = some x := by
  by_cases hc : c
  · rw [if_pos hc] at h; cases h
  · exact ⟨hc, gz_f h hc⟩
theorem gz_p {α : Type} {c : Prop} [Decidable c] {a : Option α} {x : α} (h : (if c then a else none) = some x) : c ∧ a = some x := by
  by_cases hc : c
  · exact ⟨hc, gz_t h hc⟩
  · rw [if_neg hc] at h; cases h
theorem gz_b {α β : Type} {o : Option α} {k : α → Option β} {x : β} (h : Option.bind o k = some x) : ∃ y, o = some y ∧ k y = some x := by
  cases o with
  | none => cases h
  | some y => exact ⟨y, rfl, h⟩
theorem gz_zn {v : Int32} (h : v = 0 ∨ v = 1) : narrow .boolean (.int v) = .int v := by
  rcases h with rfl | rfl <;> rfl
theorem gz_zf {v : Int32} (h : v = 0 ∨ v = 1) : fits .boolean (.int v) = true := by
  rcases h with rfl | rfl <;> rfl
theorem gz_cp {a b c : Prop} {n0 n1 k0 k1 : Nat} (h : ¬ (a ∨ b ∨ c ∨ n0 < k0 ∨ n1 < k1)) : ¬ a ∧ ¬ b ∧ ¬ c ∧ k0 ≤ n0 ∧ k1 ≤ n1 :=
  ⟨fun z => h (Or.inl z), fun z => h (Or.inr (Or.inl z)), fun z => h (Or.inr (Or.inr (Or.inl z))), Nat.le_of_not_lt (fun z => h (Or.inr (Or.inr (Or.inr (Or.inl z))))), Nat.le_of_not_lt (fun z => h (Or.inr (Or.inr (Or.inr (Or.inr z)))))⟩
theorem gz_lk {x k : Int32} {a : Int} (h : ¬ x = k) (e : k.toInt = a) : ¬ a = x.toInt := fun z => h (Int32.toInt_inj.mp (z.symm.trans e.symm))
/-- links between nest mates, and what is known of the constant row -/
def gz_isN (w : Cond) : Bool := match w with
  | .fieldLinkNest _ _ _ _ _ _ => true
  | .methodLinkNest _ _ _ _ => true
  | _ => false
theorem gz_nw1 {w : Cond} {s U : State} (hw : gz_isN w = true) (hW : s.WarmedH U.vm) (h : va_Nw w s) : va_Nw w U := by
  cases w <;> first | (exact absurd hw (by decide)) | (exact va_Nw.warmF hW h) | (exact va_Nw.warmM hW h) | cases hw
theorem gz_nwAll : gz_NW.all gz_isN = true := by decide
theorem gz_onT (w : Cond) (h : gz_isN w = true) : w.onTables = true := by
  cases w <;> first | rfl | (cases h)
def gz_E (tS : Nat) (A : Nat → Prop) (U : State) : Prop := (∀ w ∈ gz_NW, va_Nw w U) ∧ va_Z tabC tabN "[I" (.ref tS) A U U.heap ∧ va_T .int tS tabL (fun j => .int (tabS j)) A U U.heap
theorem gz_E.to {tS : Nat} {A A' : Nat → Prop} {s U : State} {H : Heap} {locs : List Loc} (h : gz_E tS A s) (hS : va_S A s.heap H locs) (hU : U.heap = H) (hW : s.WarmedH U.vm) (hAA : ∀ q, A' q → A q) : gz_E tS A' U := by
  obtain ⟨h1, h2, h3⟩ := h
  refine ⟨fun w hw => gz_nw1 (List.all_eq_true.mp gz_nwAll w hw) hW (h1 w hw), ?_, ?_⟩
  · rw [hU]
    exact ((h2.kept (H1 := H) (fun a q1 q2 => hS.2.1 a q1 q2)).moved hW.alike).narrow hAA
  · rw [hU]
    exact ((h3.kept (H1 := H) (fun a q1 q2 => hS.2.1 a q1 q2)).moved hW.alike).narrow hAA
def gz_Pc (av : List Value) (D : va_G) (cl : List vw_C) (tys : List (ClassId × FieldType)) (tS : Nat) (wc : va_W) (sz : Nat) : Array Value → State → Prop :=
  va_Pc av (fun U => U.heap.size = sz ∧ va_P D cl wc U.heap ∧ va_K D cl tys U ∧ va_D (fun _ => True) wc ∧ gz_E tS (va_A wc sz) U)
abbrev gz_B {S : Type} (D : va_G) (cl : List vw_C) (A : Nat → Prop) (w1 : S → va_W) : S → State → Prop := fun u t => va_P D cl (w1 u) t.heap ∧ va_D A (w1 u)
def gz_C (p : Program) (s : State) (m : MethodId) (args : Array Value) (meth : Method) (c : Code) (cc : ByteArray) (nL : Nat) (ret : Option FieldType) (own nm : String) (Ts : List Cond) (A : Nat → Prop) (D : va_G) (cl : List vw_C) (tys : List (ClassId × FieldType)) (tS : Nat) : Prop :=
  p.tables.exec = Jvm.exec ∧ c.code = cc ∧ meth.sig.returnType = ret ∧ c.maxLocals = nL ∧ s.vm.findClass own = some m.cls ∧ meth.name = nm ∧ (∀ w ∈ Ts, w.before args s = true) ∧ meth.locks = false ∧ (∀ q : Nat, s.heap.size ≤ q → A q) ∧ va_K D cl tys s ∧ gz_E tS A s
theorem gz_blind {av : List Value} {D : va_G} {cl : List vw_C} {tys : List (ClassId × FieldType)} {tS : Nat} {wc : va_W} {sz : Nat} : FrameBlind (gz_Pc av D cl tys tS wc sz) := by
  intro a U g mk q
  obtain ⟨q0, q1, qP, qK, qD, qE⟩ := q
  exact ⟨q0, q1, qP, va_K.moved (u := U) (U := U.calling g mk a) (Vm.Alike.refl U.vm) qK, qD, fun w hw => va_tabs (gz_onT _ (List.all_eq_true.mp gz_nwAll w hw)) (u := U) (U := U.calling g mk a) rfl (qE.1 w hw), va_Z.moved (u := U) (U := U.calling g mk a) (Vm.Alike.refl U.vm) qE.2.1, va_T.moved (u := U) (U := U.calling g mk a) (Vm.Alike.refl U.vm) qE.2.2⟩
theorem gz_fm {α β : Type} {is : List α} {f : α → Option β} {w : List β} (h : is.map f = w.map some) : is.filterMap f = w := by
  have e : is.filterMap f = (is.map f).filterMap id := by rw [List.filterMap_map]; rfl
  rw [e, h, List.filterMap_map]
  show List.filterMap some w = w
  exact List.filterMap_some
theorem gz_sameI {D : va_G} {cl : List vw_C} {tys : List (ClassId × FieldType)} {s : State} {c1 c2 : ClassId} (h : va_K D cl tys s) (i j : Nat) (hi : tys[i]? = some (c1, .int)) (hj : tys[j]? = some (c2, .int)) : c1 = c2 := Option.some.inj (Eq.trans (Eq.symm (h.2 i _ hi).2) (h.2 j _ hj).2)
theorem gz_sameB {D : va_G} {cl : List vw_C} {tys : List (ClassId × FieldType)} {s : State} {c1 c2 : ClassId} (h : va_K D cl tys s) (i j : Nat) (hi : tys[i]? = some (c1, .byte)) (hj : tys[j]? = some (c2, .byte)) : c1 = c2 := Option.some.inj (Eq.trans (Eq.symm (h.2 i _ hi).2) (h.2 j _ hj).2)
theorem gz_sameZ {D : va_G} {cl : List vw_C} {tys : List (ClassId × FieldType)} {s : State} {c1 c2 : ClassId} (h : va_K D cl tys s) (i j : Nat) (hi : tys[i]? = some (c1, .boolean)) (hj : tys[j]? = some (c2, .boolean)) : c1 = c2 := Option.some.inj (Eq.trans (Eq.symm (h.2 i _ hi).2) (h.2 j _ hj).2)
section GZ
variable {p : Program} {l : Launch} {e : Env} {R : Room} {s : State} {m : MethodId} {args : Array Value} {below : List Frame} {meth : Method} {c : Code} {H : Heap} {locs : List Loc} {cells slots : Nat} {Q : State → Prop}
variable {pc : Nat} {ls : Array Slot} {rest st0 : List Value} {a : Array Value} {A : Nat → Prop} {mc ms : Nat} {D : va_G} {cl : List vw_C} {tys : List (ClassId × FieldType)} {tS : Nat} {ws wc wr : va_W}
theorem gz_preS {av : List Value} (hK : va_K D cl tys s) (hE : gz_E tS A s) (hP : va_P D cl ws H) (hD : va_D A ws) (hS : va_S A s.heap H locs) (hA : ∀ q : Nat, s.heap.size ≤ q → A q) (isC : List Nat) (hn : va_nd isC = true) (hC : isC.map (fun i => ws[i]?) = wc.map some) : PreS s H (gz_Pc av D cl tys tS wc H.size) av :=
  ⟨gz_blind, fun U hU hW => ⟨rfl, by rw [hU], by rw [hU]; exact hP.sub isC (gz_fm hC), va_K.moved hW.alike hK, (hD.sub isC hn hC).weaken (fun _ _ _ _ => trivial), hE.to hS hU hW (va_free hD hS hA isC hC)⟩⟩
theorem gz_preV {b : Nat} {As : List Value} {q : vw_C} {fs : List Value} (hK : va_K D cl tys s) (hE : gz_E tS A s) (hP : va_P D cl ws H) (hD : va_D A ws) (hS : va_S A s.heap H locs) (hA : ∀ q : Nat, s.heap.size ≤ q → A q) (isC : List Nat) (hn : va_nd isC = true) (hC : isC.map (fun i => ws[i]?) = wc.map some) (q0 ci : Nat) (hc : cl[ci]? = some q) (he : ws[q0]? = some (b, .inr (ci, fs))) : PreV s H q.1 b (gz_Pc (.ref b :: As) D cl tys tS wc H.size) As :=
  ⟨gz_blind, va_recv hK hP hc he, (gz_preS (av := .ref b :: As) hK hE hP hD hS hA isC hn hC).2⟩
theorem gz_ci {S : Type} {v : Int32} {w1 : S → va_W} (hP : va_P D cl ws H) (hD : va_D A ws) (hS : va_S A s.heap H locs) (hA : ∀ q : Nat, s.heap.size ≤ q → A q) (isC isR : List Nat) (hC : isC.map (fun i => ws[i]?) = wc.map some) (hR : isR.map (fun i => ws[i]?) = wr.map some) (hn : va_nd isR = true) (hdis : ∀ i ∈ isR, i ∉ isC)
    (hr : va_Run p l e R s m args below meth c H locs cells slots mc ms (F0 m pc ls st0) rest (va_Qi (fun r (_ : S) => r = v) (gz_B D cl (va_A wc H.size) w1) (va_A wc H.size) a) (va_A wc H.size))
    (kk : ∀ (u : S) (H1 : Heap) (locs1 : List Loc), va_P D cl (wr ++ w1 u) H1 → va_D A (wr ++ w1 u) → va_S A s.heap H1 locs1 → W p l e R s m args below meth c H1 locs1 (cells + mc) (slots + ms) Q (F0 m (pc + 3) ls (.int v :: rest))) : W p l e R s m args below meth c H locs cells slots Q (F0 m pc ls st0) := by
  have hF := va_free (wc := wc) hD hS hA isC hC
  refine va_calli hr hS (fun q _ h => hF q h) hF (fun r u t H1 locs1 ht hvm hw hB hz1 hk1 hS1 => ?_)
  obtain ⟨hP1, hD1⟩ := hB
  rw [ht] at hP1
  obtain rfl : r = v := hw
  obtain ⟨hP2, hD2⟩ := va_join (wr := wr) (w1 := w1 u) hP hD isC isR hC hR hn hdis hk1 hF hP1 hD1
  exact kk u H1 locs1 hP2 hD2 hS1
theorem gz_cl {S : Type} {v : Int64} {w1 : S → va_W} (hP : va_P D cl ws H) (hD : va_D A ws) (hS : va_S A s.heap H locs) (hA : ∀ q : Nat, s.heap.size ≤ q → A q) (isC isR : List Nat) (hC : isC.map (fun i => ws[i]?) = wc.map some) (hR : isR.map (fun i => ws[i]?) = wr.map some) (hn : va_nd isR = true) (hdis : ∀ i ∈ isR, i ∉ isC)
    (hr : va_Run p l e R s m args below meth c H locs cells slots mc ms (F0 m pc ls st0) rest (va_Ql (fun r (_ : S) => r = v) (gz_B D cl (va_A wc H.size) w1) (va_A wc H.size) a) (va_A wc H.size))
    (kk : ∀ (u : S) (H1 : Heap) (locs1 : List Loc), va_P D cl (wr ++ w1 u) H1 → va_D A (wr ++ w1 u) → va_S A s.heap H1 locs1 → W p l e R s m args below meth c H1 locs1 (cells + mc) (slots + ms) Q (F0 m (pc + 3) ls (.long v :: rest))) : W p l e R s m args below meth c H locs cells slots Q (F0 m pc ls st0) := by
  have hF := va_free (wc := wc) hD hS hA isC hC
  refine va_calll hr hS (fun q _ h => hF q h) hF (fun r u t H1 locs1 ht hvm hw hB hz1 hk1 hS1 => ?_)
  obtain ⟨hP1, hD1⟩ := hB
  rw [ht] at hP1
  obtain rfl : r = v := hw
  obtain ⟨hP2, hD2⟩ := va_join (wr := wr) (w1 := w1 u) hP hD isC isR hC hR hn hdis hk1 hF hP1 hD1
  exact kk u H1 locs1 hP2 hD2 hS1
theorem gz_cv {S : Type} {w1 : S → va_W} (hP : va_P D cl ws H) (hD : va_D A ws) (hS : va_S A s.heap H locs) (hA : ∀ q : Nat, s.heap.size ≤ q → A q) (isC isR : List Nat) (hC : isC.map (fun i => ws[i]?) = wc.map some) (hR : isR.map (fun i => ws[i]?) = wr.map some) (hn : va_nd isR = true) (hdis : ∀ i ∈ isR, i ∉ isC)
    (hr : va_Run p l e R s m args below meth c H locs cells slots mc ms (F0 m pc ls st0) rest (va_Qv (fun (_ : S) => True) (gz_B D cl (va_A wc H.size) w1) (va_A wc H.size) a) (va_A wc H.size))
    (kk : ∀ (u : S) (H1 : Heap) (locs1 : List Loc), va_P D cl (wr ++ w1 u) H1 → va_D A (wr ++ w1 u) → va_S A s.heap H1 locs1 → W p l e R s m args below meth c H1 locs1 (cells + mc) (slots + ms) Q (F0 m (pc + 3) ls rest)) : W p l e R s m args below meth c H locs cells slots Q (F0 m pc ls st0) := by
  have hF := va_free (wc := wc) hD hS hA isC hC
  refine va_callv hr hS (fun q _ h => hF q h) hF (fun u t H1 locs1 ht hvm hw hB hz1 hk1 hS1 => ?_)
  obtain ⟨hP1, hD1⟩ := hB
  rw [ht] at hP1
  obtain ⟨hP2, hD2⟩ := va_join (wr := wr) (w1 := w1 u) hP hD isC isR hC hR hn hdis hk1 hF hP1 hD1
  exact kk u H1 locs1 hP2 hD2 hS1
end GZ
