/-! making: rows over lists of cells -/
def CXc (p : Program) (s : State) (mm : MethodId) (args : Array Value) (meth : Method) (c : Code) (cc : ByteArray) (nL : Nat) (own : String) (D : va_G) (ca : Nat → ClassId) (A : Nat → Prop) : Prop :=
  p.tables.exec = Jvm.exec ∧ c.code = cc ∧ c.maxLocals = nL ∧ s.vm.findClass own = some mm.cls ∧ (∀ w ∈ BIG, w.before args s = true) ∧ va_K D clsL (tyA ca) s ∧ (∀ q, s.heap.size ≤ q → A q) ∧ meth.locks = false ∧ SK ca A s s.heap
def FPF (own : String) (idx c k kd : Nat) (ty : FieldType) : Prop := ∃ (C : String) (T : u_T) (N : Nat) (ty0 : Nat → FieldType), clsL[c]? = some (C, T, N) ∧ k < N ∧ N = nf c ∧ fk c k = kd ∧ (∀ w ∈ u_ws C T N, w ∈ BIG) ∧ Cond.fieldLink own idx (T k).1 (T k).2.1 (T k).2.2.1 ∈ BIG ∧ (∀ k, k < N → parseFieldDescriptor (T k).2.2.1 = some (ty0 k)) ∧ (∀ a, a < N → ∀ b, b < N → a ≠ b → (T a).2.1 ≠ (T b).2.1) ∧ (T k).2.2.2 = true ∧ (T k).1 = own ∧ ty0 k = ty
def PC (D : va_G) (ca : Nat → ClassId) (ws : va_W) (sz : Nat) (U : State) : Prop := U.heap.size = sz ∧ va_P D clsL ws U.heap ∧ va_K D clsL (tyA ca) U ∧ va_D (fun _ => True) ws ∧ SK ca (va_A ws sz) U U.heap
abbrev QC (D : va_G) (ca : Nat → ClassId) (ws : va_W) (h0 : Nat) (w' : (Nat → Nat) → va_W) (sz : Nat) : Array Value → State → Outcome → State → Prop := va_Qv (fun a : Nat → Nat => a 0 = h0) (fun a t => va_P D clsL (w' a) t.heap ∧ va_K D clsL (tyA ca) t ∧ va_D (va_A ws sz) (w' a)) (va_A ws sz)
/-- a constructor's contract: from the one bare object to the cells w' a -/
def CC (l : Launch) (D : va_G) (ca : Nat → ClassId) (y : MethodName) (cw : Cond) (rm : Room) (av : List Value) (ws : va_W) (h0 : Nat) (w' : (Nat → Nat) → va_W) (mc ms : Nat) : Prop := ∀ sz, Met l y (cw :: BIG) rm (va_Pc av (PC D ca ws sz)) (QC D ca ws h0 w' sz) mc ms (va_A ws sz)
section CROWS
variable {p : Program} {l : Launch} {e : Env} {R : Room} {s : State} {mm : MethodId} {args : Array Value} {below : List Frame} {meth : Method} {c : Code} {H : Heap} {locs : List Loc} {cells slots : Nat} {Q : State → Prop}
variable {cc : ByteArray} {nL : Nat} {own : String} {D : va_G} {ca : Nat → ClassId} {A : Nat → Prop} {pc : Nat} {ls : Array Slot} {rest : List Value} {ws : va_W} {a : Nat}
theorem xObj {idx : Nat} {q : Nat} (X : CXc p s mm args meth c cc nL own D ca A) (h : Cond.methodLink own idx Lib.objectInit ∈ BIG) (hz : ls.size = nL) (hd : decode cc pc = .ok (.invokespecial idx, 3)) (hf : 1 ≤ R.frames) (hlo : 2 * (F0 mm pc ls (Value.ref q :: rest)).monitorRoom + (rest.map fun v => v.category).sum + 12 ≤ R.locals)
    (kk : W p l e R s mm args below meth c H locs cells slots Q (F0 mm (pc + 3) ls rest)) : W p l e R s mm args below meth c H locs cells slots Q (F0 mm pc ls (.ref q :: rest)) :=
  have hts := X.2.2.2.2.1
  W.objInit X.1 X.2.1 X.2.2.2.1 (hts _ h) (hts _ (tb1 (List.mem_of_getElem? (i := 32) rfl) rfl)) (hts _ (tb1 (List.mem_of_getElem? (i := 33) rfl) rfl)) rfl (by rw [X.2.2.1]; exact hz) rfl hd hf hlo kk
theorem xPutF {idx ci k kd : Nat} {ty : FieldType} {v : Value} {fs : List Value} (X : CXc p s mm args meth c cc nL own D ca A) (hin : meth.name = "<init>") (hP : va_P D clsL ws H) (hD : va_D A ws) (hS : va_S A s.heap H locs) (hf : FPF own idx ci k kd ty) (q0 : Nat) (he : ws[q0]? = some (a, .inr (ci, fs))) (hn : narrow ty v = v) (hfit : fits ty v = true) (hl : k < fs.length) (hdg : decode cc pc = .ok (.putfield idx, 3))
    (kk : ∀ (H1 : Heap) (locs1 : List Loc), va_P D clsL (ws.set q0 (a, .inr (ci, fs.set k v))) H1 → va_D A (ws.set q0 (a, .inr (ci, fs.set k v))) → va_S A s.heap H1 locs1 → W p l e R s mm args below meth c H1 locs1 cells slots Q (F0 mm (pc + 3) ls rest)) : W p l e R s mm args below meth c H locs cells slots Q (F0 mm pc ls (v :: .ref a :: rest)) := by
  obtain ⟨C, T, N, ty0, h1, h2, h3, h4, h5, h6, h7, h8, h9, h10, h11⟩ := hf
  obtain ⟨hx, hb, hml, hown, hts, hK, -⟩ := X
  exact va_putF (v := v) (ty := ty) hx hb hts h5 ty0 h7 h8 hown hK hP hD hS q0 he h1 k h2 (hts _ h6) (fun _ h9 => h9) h9 hin h10 (by rw [h7 k h2, h11]) hn hfit hl hdg kk
theorem xPut {idx ci k kd : Nat} {ty : FieldType} {v : Value} {fs : List Value} (X : CXc p s mm args meth c cc nL own D ca A) (hP : va_P D clsL ws H) (hD : va_D A ws) (hS : va_S A s.heap H locs) (hf : FP own idx ci k kd ty) (q0 : Nat) (he : ws[q0]? = some (a, .inr (ci, fs))) (hn : narrow ty v = v) (hfit : fits ty v = true) (hl : k < fs.length) (hdg : decode cc pc = .ok (.putfield idx, 3))
    (kk : ∀ (H1 : Heap) (locs1 : List Loc), va_P D clsL (ws.set q0 (a, .inr (ci, fs.set k v))) H1 → va_D A (ws.set q0 (a, .inr (ci, fs.set k v))) → va_S A s.heap H1 locs1 → W p l e R s mm args below meth c H1 locs1 cells slots Q (F0 mm (pc + 3) ls rest)) : W p l e R s mm args below meth c H locs cells slots Q (F0 mm pc ls (v :: .ref a :: rest)) := by
  obtain ⟨C, T, N, ty0, h1, h2, h3, h4, h5, h6, h7, h8, h9, h10⟩ := hf
  obtain ⟨hx, hb, hml, hown, hts, hK, -⟩ := X
  exact va_put (v := v) (ty := ty) hx hb hts h5 ty0 h7 h8 hown hK hP hD hS q0 he h1 k h2 (hts _ h6) (fun _ h9 => h9) h9 (by rw [h7 k h2, h10]) hn hfit hl hdg kk
theorem xGet {idx ci k kd : Nat} {v : Value} {fs : List Value} (X : CXc p s mm args meth c cc nL own D ca A) (hP : va_P D clsL ws H) (hf : FD own idx ci k kd) (q0 : Nat) (he : ws[q0]? = some (a, .inr (ci, fs))) (hv : fs[k]? = some v) (hdg : decode cc pc = .ok (.getfield idx, 3))
    (kk : W p l e R s mm args below meth c H locs cells slots Q (F0 mm (pc + 3) ls (v :: rest))) : W p l e R s mm args below meth c H locs cells slots Q (F0 mm pc ls (.ref a :: rest)) := by
  obtain ⟨C, T, N, h1, h2, h3, h4, h5, h6⟩ := hf
  obtain ⟨hx, hb, hml, hown, hts, hK, -⟩ := X
  exact va_get (v := v) hx hb hts h5 hown hK hP q0 he h1 k h2 (hts _ h6) (fun _ h9 => h9) hv hdg kk
theorem tyA_eq {s : State} {ty : FieldType} {cA : ClassId} {k : Nat} {c0 : ClassId} (hty : ∀ C, ty ≠ .object C) (hk : (tyA ca)[k]? = some (c0, ty)) (h : va_K D clsL (tyA ca ++ [(cA, ty)]) s) : cA = c0 := by
  have h4 := (h.2 4 (cA, ty) rfl).2
  have hlt : k < (tyA ca).length := (List.getElem?_eq_some_iff.mp hk).1
  have h0 := (h.2 k (c0, ty) (by rw [List.getElem?_append_left hlt]; exact hk)).2
  cases ty with
  | object C => exact absurd rfl (hty C)
  | _ => exact Option.some.inj (h4.symm.trans h0)
theorem xNewI {n : Int32} {N' : Nat} (X : CXc p s mm args meth c cc nL own D ca A) (hP : va_P D clsL ws H) (hD : va_D A ws) (hS : va_S A s.heap H locs) (hn : ¬ n < 0) (hN : n.toNatClampNeg = N') (hby : N' * componentBytes .int ≤ 536870912) (hcells : cells + 1 ≤ R.cells) (hslots : slots + N' ≤ R.slots) (hdg : decode cc pc = .ok (.newarray .int, 2))
    (kk : ∀ (q : Nat) (H1 : Heap), va_P D clsL (ws ++ [(q, .inl (ca 0, N', .inl (fun _ => 0)))]) H1 → va_D A (ws ++ [(q, .inl (ca 0, N', .inl (fun _ => 0)))]) → va_S A s.heap H1 locs → W p l e R s mm args below meth c H1 locs (cells + 1) (slots + N') Q (F0 mm (pc + 2) ls (.ref q :: rest))) : W p l e R s mm args below meth c H locs cells slots Q (F0 mm pc ls (.int n :: rest)) := by
  refine va_newa (atype := .int) (ty := .int) (a0 := (N', .inl (fun _ => 0))) X.1 X.2.1 (X.2.2.2.2.1 _ (tb1 (List.mem_of_getElem? (i := 124) rfl) rfl)) rfl X.2.2.2.2.2.1 hP hD hS X.2.2.2.2.2.2.1 (fun _ => rfl) hn hN hby hcells hslots hdg (fun q cA H1 hK1 hP1 hD1 hS1 => ?_)
  have hc := tyA_eq (k := 0) (c0 := ca 0) (fun _ h => by cases h) rfl hK1
  subst hc
  exact kk q H1 hP1 hD1 hS1
theorem xNewZ {n : Int32} {N' : Nat} (X : CXc p s mm args meth c cc nL own D ca A) (hP : va_P D clsL ws H) (hD : va_D A ws) (hS : va_S A s.heap H locs) (hn : ¬ n < 0) (hN : n.toNatClampNeg = N') (hby : N' * componentBytes .boolean ≤ 536870912) (hcells : cells + 1 ≤ R.cells) (hslots : slots + N' ≤ R.slots) (hdg : decode cc pc = .ok (.newarray .boolean, 2))
    (kk : ∀ (q : Nat) (H1 : Heap), va_P D clsL (ws ++ [(q, .inl (ca 1, N', .inl (fun _ => 0)))]) H1 → va_D A (ws ++ [(q, .inl (ca 1, N', .inl (fun _ => 0)))]) → va_S A s.heap H1 locs → W p l e R s mm args below meth c H1 locs (cells + 1) (slots + N') Q (F0 mm (pc + 2) ls (.ref q :: rest))) : W p l e R s mm args below meth c H locs cells slots Q (F0 mm pc ls (.int n :: rest)) := by
  refine va_newa (atype := .boolean) (ty := .boolean) (a0 := (N', .inl (fun _ => 0))) X.1 X.2.1 (X.2.2.2.2.1 _ (tb1 (List.mem_of_getElem? (i := 125) rfl) rfl)) rfl X.2.2.2.2.2.1 hP hD hS X.2.2.2.2.2.2.1 (fun _ => rfl) hn hN hby hcells hslots hdg (fun q cA H1 hK1 hP1 hD1 hS1 => ?_)
  have hc := tyA_eq (k := 1) (c0 := ca 1) (fun _ h => by cases h) rfl hK1
  subst hc
  exact kk q H1 hP1 hD1 hS1
theorem xNewB {n : Int32} {N' : Nat} (X : CXc p s mm args meth c cc nL own D ca A) (hP : va_P D clsL ws H) (hD : va_D A ws) (hS : va_S A s.heap H locs) (hn : ¬ n < 0) (hN : n.toNatClampNeg = N') (hby : N' * componentBytes .byte ≤ 536870912) (hcells : cells + 1 ≤ R.cells) (hslots : slots + N' ≤ R.slots) (hdg : decode cc pc = .ok (.newarray .byte, 2))
    (kk : ∀ (q : Nat) (H1 : Heap), va_P D clsL (ws ++ [(q, .inl (ca 2, N', .inl (fun _ => 0)))]) H1 → va_D A (ws ++ [(q, .inl (ca 2, N', .inl (fun _ => 0)))]) → va_S A s.heap H1 locs → W p l e R s mm args below meth c H1 locs (cells + 1) (slots + N') Q (F0 mm (pc + 2) ls (.ref q :: rest))) : W p l e R s mm args below meth c H locs cells slots Q (F0 mm pc ls (.int n :: rest)) := by
  refine va_newa (atype := .byte) (ty := .byte) (a0 := (N', .inl (fun _ => 0))) X.1 X.2.1 (X.2.2.2.2.1 _ (tb1 (List.mem_of_getElem? (i := 123) rfl) rfl)) rfl X.2.2.2.2.2.1 hP hD hS X.2.2.2.2.2.2.1 (fun _ => rfl) hn hN hby hcells hslots hdg (fun q cA H1 hK1 hP1 hD1 hS1 => ?_)
  have hc := tyA_eq (k := 2) (c0 := ca 2) (fun _ h => by cases h) rfl hK1
  subst hc
  exact kk q H1 hP1 hD1 hS1
theorem xNewL {n : Int32} {N' : Nat} (X : CXc p s mm args meth c cc nL own D ca A) (hP : va_P D clsL ws H) (hD : va_D A ws) (hS : va_S A s.heap H locs) (hn : ¬ n < 0) (hN : n.toNatClampNeg = N') (hby : N' * componentBytes .long ≤ 536870912) (hcells : cells + 1 ≤ R.cells) (hslots : slots + N' ≤ R.slots) (hdg : decode cc pc = .ok (.newarray .long, 2))
    (kk : ∀ (q : Nat) (H1 : Heap), va_P D clsL (ws ++ [(q, .inl (ca 3, N', .inr (.inl (fun _ => 0))))]) H1 → va_D A (ws ++ [(q, .inl (ca 3, N', .inr (.inl (fun _ => 0))))]) → va_S A s.heap H1 locs → W p l e R s mm args below meth c H1 locs (cells + 1) (slots + N') Q (F0 mm (pc + 2) ls (.ref q :: rest))) : W p l e R s mm args below meth c H locs cells slots Q (F0 mm pc ls (.int n :: rest)) := by
  refine va_newa (atype := .long) (ty := .long) (a0 := (N', .inr (.inl (fun _ => 0)))) X.1 X.2.1 (X.2.2.2.2.1 _ (tb1 (List.mem_of_getElem? (i := 218) rfl) rfl)) rfl X.2.2.2.2.2.1 hP hD hS X.2.2.2.2.2.2.1 (fun _ => rfl) hn hN hby hcells hslots hdg (fun q cA H1 hK1 hP1 hD1 hS1 => ?_)
  have hc := tyA_eq (k := 3) (c0 := ca 3) (fun _ h => by cases h) rfl hK1
  subst hc
  exact kk q H1 hP1 hD1 hS1
/-- new of a class, by its number -/
def NW (own : String) (idx c : Nat) (fs : List Value) (N : Nat) : Prop := ∃ (C : String) (T : u_T) (ty0 : Nat → FieldType), clsL[c]? = some (C, T, N) ∧ (∀ w ∈ u_ws C T N, w ∈ BIG) ∧ (∀ k, k < N → parseFieldDescriptor (T k).2.2.1 = some (ty0 k)) ∧ Cond.classLink own idx C ∈ BIG ∧ Cond.instantiable C N ∈ BIG ∧ Cond.initialized C ∈ BIG ∧ (∀ j, j < N → defaultValue (ty0 j) = vp_V fs j)
theorem xNew {idx ci N : Nat} {fs : List Value} (X : CXc p s mm args meth c cc nL own D ca A) (hP : va_P D clsL ws H) (hD : va_D A ws) (hS : va_S A s.heap H locs) (hw : NW own idx ci fs N) (hcells : cells + 1 ≤ R.cells) (hslots : slots + N ≤ R.slots) (hdg : decode cc pc = .ok (.new idx, 3))
    (kk : ∀ (q : Nat) (H1 : Heap), va_P D clsL (ws ++ [(q, .inr (ci, fs))]) H1 → va_D A (ws ++ [(q, .inr (ci, fs))]) → va_S A s.heap H1 locs → W p l e R s mm args below meth c H1 locs (cells + 1) (slots + N) Q (F0 mm (pc + 3) ls (.ref q :: rest))) : W p l e R s mm args below meth c H locs cells slots Q (F0 mm pc ls rest) := by
  obtain ⟨C, T, ty0, h1, h2, h3, h4, h5, h6, h7⟩ := hw
  have hts := X.2.2.2.2.1
  exact va_new X.1 X.2.1 hts h2 ty0 h3 X.2.2.2.1 (hts _ h4) (hts _ h5) (hts _ h6) X.2.2.2.2.2.1 hP hD hS X.2.2.2.2.2.2.1 h1 h7 hcells hslots hdg kk
theorem pc_blind {av : List Value} {sz : Nat} {w0 : va_W} : FrameBlind (va_Pc av (PC D ca w0 sz)) := fun a U g mk q => by
  obtain ⟨q0, q1, qP, qK, qD, qS⟩ := q
  exact ⟨q0, q1, qP, va_K.moved (u := U) (U := U.calling g mk a) (Vm.Alike.refl U.vm) qK, qD, SK.call qS⟩
/-- a constructor by its link -/
def MI (own : String) (idx : Nat) (y : MethodName) (cw : Cond) (n : Nat) : Prop := Cond.methodLink own idx y ∈ BIG ∧ Cond.instanceMethod y ∈ BIG ∧ Cond.initialized y.cls ∈ BIG ∧ cw ∈ BIG ∧ y.name = "<init>" ∧ (y.cls ≠ "java/lang/invoke/MethodHandle" ∧ y.cls ≠ "java/lang/invoke/VarHandle" ∧ (parseMethodDescriptor y.desc).map (fun d => d.parameters.length) = some n)
theorem callC {y : MethodName} {bytes : ByteArray} {maxL idx n h0 mc ms : Nat} {rm : Room} {As st0 : List Value} {wc wr : va_W} {w' : (Nat → Nat) → va_W} (X : CXc p s mm args meth c cc nL own D ca A) (hP : va_P D clsL ws H) (hD : va_D A ws) (hS : va_S A s.heap H locs) (hM : CC l D ca y (Cond.code y bytes maxL none) rm (.ref h0 :: As) wc h0 w' mc ms) (hm : MI own idx y (Cond.code y bytes maxL none) n)
    (isC isR : List Nat) (hC : isC.map (fun i => ws[i]?) = wc.map some) (hRs : isR.map (fun i => ws[i]?) = wr.map some) (hnC : va_nd isC = true) (hn : va_nd isR = true) (hdis : ∀ i ∈ isR, i ∉ isC) (hc : rm.cells = mc ∧ rm.slots = ms) (hR : rm.frames + 1 ≤ R.frames ∧ 8 + (maxL + 11) + rm.locals ≤ R.locals) (hna : As.length = n) (hz : ls.size = nL) (hst : st0 = As.reverse ++ .ref h0 :: rest) (hW : (rest.map fun v => v.category).sum ≤ 8) (hdg : decode cc pc = .ok (.invokespecial idx, 3)) (hf : cells + mc ≤ R.cells ∧ slots + ms ≤ R.slots)
    (kk : ∀ (a : Nat → Nat) (H1 : Heap) (locs1 : List Loc), a 0 = h0 → va_P D clsL (wr ++ w' a) H1 → va_D A (wr ++ w' a) → va_S A s.heap H1 locs1 → W p l e R s mm args below meth c H1 locs1 (cells + mc) (slots + ms) Q (F0 mm (pc + 3) ls rest)) : W p l e R s mm args below meth c H locs cells slots Q (F0 mm pc ls st0) := by
  obtain ⟨h1, h2, h4, h5, h6, h7⟩ := hm
  have hts := X.2.2.2.2.1
  have hPc : va_P D clsL wc H := by
    refine hP.sub isC ?_
    have e : isC.filterMap (fun i => ws[i]?) = (isC.map (fun i => ws[i]?)).filterMap id := by rw [List.filterMap_map]; rfl
    rw [e, hC, List.filterMap_map]
    exact List.filterMap_some
  have hDc := hD.sub (ws' := wc) isC hnC hC
  have hFc := va_free (wc := wc) hD hS X.2.2.2.2.2.2.1 isC hC
  have hsk := ((X.2.2.2.2.2.2.2.2.kept (fun q g1 g2 => hS.2.1 q g1 g2)).narrow hFc)
  refine va_callv (va_runI (Ts := BIG) (As := As) (rest := rest) ⟨X.1, X.2.1, X.2.2.1, X.2.2.2.1, hts⟩ (hM H.size) ⟨callB_of n hts (big_in h5) rfl hc.1 hc.2 (hts _ h4) (hts _ h1) h7 hR, h6, hts _ h2⟩ ⟨pc_blind, fun U hU hW => ⟨rfl, by rw [hU], by rw [hU]; exact hPc, va_K.moved hW.alike X.2.2.2.2.2.1, hDc.weaken (fun _ _ _ _ => trivial), by rw [hU]; exact hsk.warm hW⟩⟩ rfl hna hz hst (lv_room hW) hdg hf) hS (fun q _ h => hFc q h) hFc (fun u t H1 locs1 ht hvm hw hB hz1 hk1 hS1 => ?_)
  obtain ⟨hP1, hK1, hD1⟩ := hB
  rw [ht] at hP1
  obtain ⟨hP2, hD2⟩ := va_join (wr := wr) (w1 := w' u) hP hD isC isR hC hRs hn hdis hk1 hFc hP1 hD1
  exact kk u H1 locs1 hw hP2 hD2 hS1
theorem startC {y : MethodName} {maxL mc ms h0 : Nat} {rm : Room} {av : List Value} {w0 : va_W} {w' : (Nat → Nat) → va_W} (hy : plainName y.cls = true) (hy2 : y.name = "<init>") (hlen : (lg_sl av).length ≤ maxL)
    (body : ∀ p e s mm args below meth c ls, CXc p s mm args meth c cc maxL y.cls D ca (va_A w0 s.heap.size) → meth.name = "<init>" → meth.sig.returnType = none → va_P D clsL w0 s.heap → va_D (va_A w0 s.heap.size) w0 → va_S (va_A w0 s.heap.size) s.heap s.heap [] → lv_has ls maxL (lv_args 0 av) → W p l e rm s mm args below meth c s.heap [] 0 0 (MQ below (QC D ca w0 h0 w' s.heap.size) args s mc ms (va_A w0 s.heap.size)) (F0 mm 0 ls [])) :
    CC l D ca y (Cond.code y cc maxL none) rm av w0 h0 w' mc ms := by
  intro sz
  refine Met.ofW (cc := cc) (maxL := maxL) (ret := none) hy rfl ?_
  intro p e s mm args below meth c s₁ B hml hv
  obtain ⟨rfl, hsz, hP, hK, hD0, hsk⟩ := hv
  subst hsz
  have hts := atoms_spec (ws := Cond.code y cc maxL none :: BIG) B.pre
  have hin : meth.name = y.name := (name_of_methodNamed B.named B.method).1
  rw [lg_entry_eq]
  exact body p e s mm av.toArray below meth c _ ⟨B.exec, B.bytes, hml, findClass_of_methodNamed B.named, fun w hw => hts w (List.mem_cons_of_mem _ hw), hK, fun q hq => Or.inr hq, B.notSynchronized, hsk⟩ (hin.trans hy2) B.returns hP hD0.self va_S.rf (lv_entry av hlen)
theorem xRet {w0 : va_W} {h0 : Nat} {w' : (Nat → Nat) → va_W} (X : CXc p s mm args meth c cc nL own D ca (va_A w0 s.heap.size)) (hr : meth.sig.returnType = none) (a : Nat → Nat) (ha : a 0 = h0) (hP : va_P D clsL (w' a) H) (hD : va_D (va_A w0 s.heap.size) (w' a)) (hS : va_S (va_A w0 s.heap.size) s.heap H locs) (hdg : decode cc pc = .ok (.return_, 1)) :
    W p l e R s mm args below meth c H locs cells slots (MQ below (QC D ca w0 h0 w' s.heap.size) args s cells slots (va_A w0 s.heap.size)) (F0 mm pc ls []) := by
  have hlocks : meth.locks = false := X.2.2.2.2.2.2.2.1
  exact W.vret X.1 X.2.1 hr (fun t ht hW => ⟨⟨a, rfl, ha, by rw [ht]; exact hP, va_K.moved hW.alike X.2.2.2.2.2.1, hD⟩, hS.F ht⟩) hS.2.2 hdg
end CROWS
