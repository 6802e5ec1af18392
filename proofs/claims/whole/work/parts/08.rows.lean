/-! rows over the one memory -/
/-- a field by its link: class c, place k, kind -/
def FD (own : String) (idx c k kd : Nat) : Prop := ∃ (C : String) (T : u_T) (N : Nat), clsL[c]? = some (C, T, N) ∧ k < N ∧ N = nf c ∧ fk c k = kd ∧ (∀ w ∈ u_ws C T N, w ∈ BIG) ∧ Cond.fieldLink own idx (T k).1 (T k).2.1 (T k).2.2.1 ∈ BIG
/-- a field that may be written -/
def FP (own : String) (idx c k kd : Nat) (ty : FieldType) : Prop := ∃ (C : String) (T : u_T) (N : Nat) (ty0 : Nat → FieldType), clsL[c]? = some (C, T, N) ∧ k < N ∧ N = nf c ∧ fk c k = kd ∧ (∀ w ∈ u_ws C T N, w ∈ BIG) ∧ Cond.fieldLink own idx (T k).1 (T k).2.1 (T k).2.2.1 ∈ BIG ∧ (∀ k, k < N → parseFieldDescriptor (T k).2.2.1 = some (ty0 k)) ∧ (∀ a, a < N → ∀ b, b < N → a ≠ b → (T a).2.1 ≠ (T b).2.1) ∧ (T k).2.2.2 = false ∧ ty0 k = ty
/-- a method by its link -/
def MD (own : String) (idx : Nat) (y : MethodName) (cw : Cond) (n : Nat) : Prop := Cond.methodLink own idx y ∈ BIG ∧ Cond.instanceMethod y ∈ BIG ∧ Cond.selects y.cls y y ∈ BIG ∧ Cond.initialized y.cls ∈ BIG ∧ cw ∈ BIG ∧ (y.cls ≠ "java/lang/invoke/MethodHandle" ∧ y.cls ≠ "java/lang/invoke/VarHandle" ∧ (parseMethodDescriptor y.desc).map (fun d => d.parameters.length) = some n)
def MS (own : String) (idx : Nat) (y : MethodName) (cw : Cond) (n : Nat) : Prop := Cond.methodLink own idx y ∈ BIG ∧ Cond.static y ∈ BIG ∧ Cond.initialized y.cls ∈ BIG ∧ cw ∈ BIG ∧ (y.cls ≠ "java/lang/invoke/MethodHandle" ∧ y.cls ≠ "java/lang/invoke/VarHandle" ∧ (parseMethodDescriptor y.desc).map (fun d => d.parameters.length) = some n)
def txT : String := "knight tub sit can pipe flinch seed law cool ease rise or and not heat bears rank stood litres long minute"
def txM : String := "knight tub sit can pipe flinch seed law cool ease rise or and not heat bears rank stood litres long minute "
def bytM : List Int32 := [107, 110, 105, 103, 104, 116, 32, 116, 117, 98, 32, 115, 105, 116, 32, 99, 97, 110, 32, 112, 105, 112, 101, 32, 102, 108, 105, 110, 99, 104, 32, 115, 101, 101, 100, 32, 108, 97, 119, 32, 99, 111, 111, 108, 32, 101, 97, 115, 101, 32, 114, 105, 115, 101, 32, 111, 114, 32, 97, 110, 100, 32, 110, 111, 116, 32, 104, 101, 97, 116, 32, 98, 101, 97, 114, 115, 32, 114, 97, 110, 107, 32, 115, 116, 111, 111, 100, 32, 108, 105, 116, 114, 101, 115, 32, 108, 111, 110, 103, 32, 109, 105, 110, 117, 116, 101, 32]
def bytT : List Int32 := [107, 110, 105, 103, 104, 116, 32, 116, 117, 98, 32, 115, 105, 116, 32, 99, 97, 110, 32, 112, 105, 112, 101, 32, 102, 108, 105, 110, 99, 104, 32, 115, 101, 101, 100, 32, 108, 97, 119, 32, 99, 111, 111, 108, 32, 101, 97, 115, 101, 32, 114, 105, 115, 101, 32, 111, 114, 32, 97, 110, 100, 32, 110, 111, 116, 32, 104, 101, 97, 116, 32, 98, 101, 97, 114, 115, 32, 114, 97, 110, 107, 32, 115, 116, 111, 111, 100, 32, 108, 105, 116, 114, 101, 115, 32, 108, 111, 110, 103, 32, 109, 105, 110, 117, 116, 101]
/-- what is read and never written: two texts, two statics -/
def SK (ca : Nat → Nat) (A : Nat → Prop) (U : State) (H : Heap) : Prop := vk_S 2 [106, 107] [bytT, bytM] (fun i => ca (4 + i)) (fun i => ca (6 + i)) A U H ∧ va_Z "java/lang/String" "COMPACT_STRINGS" "Z" (.int 1) A U H ∧ va_Zq "jdk/internal/util/Preconditions" "SIOOBE_FORMATTER" "Ljava/util/function/BiFunction;" A U H ∧ vk_R RX10 17 txT (ca 4) U ∧ vk_R RX12 197 txM (ca 5) U
theorem SK.kept {ca : Nat → Nat} {A : Nat → Prop} {U : State} {H H1 : Heap} (h : SK ca A U H) (hq : ∀ a : Nat, a < H.size → ¬ A a → H1[a]? = H[a]?) : SK ca A U H1 := ⟨h.1.kept hq, h.2.1.kept hq, h.2.2.1.kept hq, h.2.2.2.1, h.2.2.2.2⟩
theorem SK.narrow {ca : Nat → Nat} {A B : Nat → Prop} {U : State} {H : Heap} (h : SK ca A U H) (hAB : ∀ q, B q → A q) : SK ca B U H := ⟨h.1.narrow hAB, h.2.1.narrow hAB, h.2.2.1.narrow hAB, h.2.2.2.1, h.2.2.2.2⟩
theorem SK.warm {ca : Nat → Nat} {A : Nat → Prop} {s U : State} {H : Heap} (hW : s.WarmedH U.vm) (h : SK ca A s H) : SK ca A U H := ⟨h.1.moved hW.alike, h.2.1.moved hW.alike, h.2.2.1.moved hW.alike, h.2.2.2.1.warm hW, h.2.2.2.2.warm hW⟩
theorem SK.call {ca : Nat → Nat} {A : Nat → Prop} {U : State} {H : Heap} {g : JFrame} {mk : MethodId} {a : Array Value} (h : SK ca A U H) : SK ca A (U.calling g mk a) H := ⟨h.1.moved (u := U) (U := U.calling g mk a) (Vm.Alike.refl U.vm), h.2.1.moved (u := U) (U := U.calling g mk a) (Vm.Alike.refl U.vm), h.2.2.1.moved (u := U) (U := U.calling g mk a) (Vm.Alike.refl U.vm), h.2.2.2.1.same (u := U) (U := U.calling g mk a) rfl, h.2.2.2.2.same (u := U) (U := U.calling g mk a) rfl⟩
/-- what stands fast in a method's walk -/
def CX (p : Program) (s : State) (mm : MethodId) (args : Array Value) (meth : Method) (c : Code) (cc : ByteArray) (nL : Nat) (own : String) (D : va_G) (ca : Nat → ClassId) (ad : Nat → Nat) (A : Nat → Prop) : Prop :=
  p.tables.exec = Jvm.exec ∧ c.code = cc ∧ c.maxLocals = nL ∧ s.vm.findClass own = some mm.cls ∧ (∀ w ∈ BIG, w.before args s = true) ∧ va_K D clsL (tyA ca) s ∧ adI ca ad ∧ (∀ i, (ca 10 ≤ i ∧ i < ca 9) → A (ad i)) ∧ (∀ q, s.heap.size ≤ q → A q) ∧ meth.locks = false ∧ SK ca A s s.heap
/-- what moves: the memory -/
def IW (D : va_G) (ca : Nat → ClassId) (ad : Nat → Nat) (A : Nat → Prop) (s : State) (m : Mem) (H : Heap) (locs : List Loc) : Prop := va_P D clsL (wl ca ad m) H ∧ va_S A s.heap H locs
def WA (ca ad : Nat → Nat) (sz : Nat) : Nat → Prop := fun q => (∃ i, (ca 10 ≤ i ∧ i < ca 9) ∧ q = ad i) ∨ sz ≤ q
def PW (D : va_G) (ca : Nat → ClassId) (ad : Nat → Nat) (m : Mem) (sz : Nat) (U : State) : Prop := U.heap.size = sz ∧ va_P D clsL (wl ca ad m) U.heap ∧ va_K D clsL (tyA ca) U ∧ adI ca ad ∧ SK ca (WA ca ad sz) U U.heap
def QW (D : va_G) (ca : Nat → ClassId) (ad : Nat → Nat) (m : Mem) (t : State) : Prop := va_P D clsL (wl ca ad m) t.heap ∧ va_K D clsL (tyA ca) t
abbrev QI (D : va_G) (ca : Nat → ClassId) (ad : Nat → Nat) (sz : Nat) (r : Int32) (m' : Mem) : Array Value → State → Outcome → State → Prop := va_Qi (fun r' (u : Mem) => r' = r ∧ u = m') (QW D ca ad) (WA ca ad sz)
abbrev QL (D : va_G) (ca : Nat → ClassId) (ad : Nat → Nat) (sz : Nat) (r : Int64) (m' : Mem) : Array Value → State → Outcome → State → Prop := va_Ql (fun r' (u : Mem) => r' = r ∧ u = m') (QW D ca ad) (WA ca ad sz)
abbrev QV (D : va_G) (ca : Nat → ClassId) (ad : Nat → Nat) (sz : Nat) (m' : Mem) : Array Value → State → Outcome → State → Prop := va_Qv (fun (u : Mem) => u = m') (QW D ca ad) (WA ca ad sz)
/-- a contract: from memory m the method answers r, and the memory is m' -/
def CI (l : Launch) (D : va_G) (ca : Nat → ClassId) (ad : Nat → Nat) (y : MethodName) (cw : Cond) (rm : Room) (av : List Value) (m : Mem) (r : Int32) (m' : Mem) : Prop := ∀ sz, Met l y (cw :: BIG) rm (va_Pc av (PW D ca ad m sz)) (QI D ca ad sz r m') 0 0 (WA ca ad sz)
def CL (l : Launch) (D : va_G) (ca : Nat → ClassId) (ad : Nat → Nat) (y : MethodName) (cw : Cond) (rm : Room) (av : List Value) (m : Mem) (r : Int64) (m' : Mem) : Prop := ∀ sz, Met l y (cw :: BIG) rm (va_Pc av (PW D ca ad m sz)) (QL D ca ad sz r m') 0 0 (WA ca ad sz)
def CV (l : Launch) (D : va_G) (ca : Nat → ClassId) (ad : Nat → Nat) (y : MethodName) (cw : Cond) (rm : Room) (av : List Value) (m : Mem) (m' : Mem) : Prop := ∀ sz, Met l y (cw :: BIG) rm (va_Pc av (PW D ca ad m sz)) (QV D ca ad sz m') 0 0 (WA ca ad sz)
theorem g_no {α : Type} {c : Prop} [Decidable c] {x : Option α} {f : α} (h : (if c then none else x) = some f) : ¬ c ∧ x = some f := by
  by_cases hc : c
  · rw [if_pos hc] at h
    cases h
  · rw [if_neg hc] at h
    exact ⟨hc, h⟩
theorem g_is {α : Type} {c : Prop} [Decidable c] {x : Option α} {f : α} (h : (if c then x else none) = some f) : c ∧ x = some f := by
  by_cases hc : c
  · rw [if_pos hc] at h
    exact ⟨hc, h⟩
  · rw [if_neg hc] at h
    cases h
theorem g_t {α : Type} {c : Prop} [Decidable c] {x y : Option α} {f : α} (hc : c) (h : (if c then x else y) = some f) : x = some f := by
  rw [if_pos hc] at h
  exact h
theorem g_f {α : Type} {c : Prop} [Decidable c] {x y : Option α} {f : α} (hc : ¬ c) (h : (if c then x else y) = some f) : y = some f := by
  rw [if_neg hc] at h
  exact h
theorem g_b {α β : Type} {x : Option α} {k : α → Option β} {f : β} (h : x.bind k = some f) : ∃ r, x = some r ∧ k r = some f := by
  cases x with
  | none => cases h
  | some r => exact ⟨r, rfl, h⟩
theorem g_2 {α β : Type} {a c : α} {b d : β} (h : some (a, b) = some (c, d)) : a = c ∧ b = d := by
  cases h
  exact ⟨rfl, rfl⟩
theorem g_1 {α : Type} {a c : α} (h : some a = some c) : a = c := by
  cases h
  rfl
theorem fvI {ad : Nat → Nat} {m : Mem} {c b k : Nat} (h : fk c k = 0) : fval ad m c b k = .int (m.1 b k) := by
  unfold fval
  rw [if_pos h]
theorem fvL {ad : Nat → Nat} {m : Mem} {c b k : Nat} (h : fk c k = 1) : fval ad m c b k = .long (m.2.1 b k) := by
  unfold fval
  rw [h]
  rfl
theorem fvR {ad : Nat → Nat} {m : Mem} {c b k : Nat} (h : fk c k = 2) : fval ad m c b k = .ref (ad (rfi m c b k)) := by
  unfold fval
  rw [h]
  rfl
theorem narZ {v : Int32} (h : v = 0 ∨ v = 1) : narrow .boolean (.int v) = .int v := by
  rcases h with rfl | rfl <;> decide
theorem fitZ {v : Int32} (h : v = 0 ∨ v = 1) : fits .boolean (.int v) = true := by
  rcases h with rfl | rfl <;> decide
section ROWS
variable {p : Program} {l : Launch} {e : Env} {R : Room} {s : State} {mm : MethodId} {args : Array Value} {below : List Frame} {meth : Method} {c : Code} {H : Heap} {locs : List Loc} {Q : State → Prop}
variable {cc : ByteArray} {nL : Nat} {own : String} {D : va_G} {ca : Nat → ClassId} {ad : Nat → Nat} {A : Nat → Prop} {m : Mem} {pc : Nat} {ls : Array Slot} {rest : List Value}
theorem wD (X : CX p s mm args meth c cc nL own D ca ad A) : va_D A (wl ca ad m) := wl_D X.2.2.2.2.2.2.1 X.2.2.2.2.2.2.2.1 m
theorem gI {idx ci k b : Nat} (X : CX p s mm args meth c cc nL own D ca ad A) (hI : IW D ca ad A s m H locs) (hf : FD own idx ci k 0) (hl : ly ca b = (0, ci)) (hdg : decode cc pc = .ok (.getfield idx, 3))
    (kk : W p l e R s mm args below meth c H locs 0 0 Q (F0 mm (pc + 3) ls (.int (m.1 b k) :: rest))) : W p l e R s mm args below meth c H locs 0 0 Q (F0 mm pc ls (.ref (ad b) :: rest)) := by
  obtain ⟨C, T, N, h1, h2, h3, h4, h5, h6⟩ := hf
  obtain ⟨hx, hb, hml, hown, hts, hK, -⟩ := X
  refine va_get (v := .int (m.1 b k)) hx hb hts h5 hown hK hI.1 (b - ca 10) (wl_o hl) h1 k h2 (hts _ h6) (fun _ h9 => h9) ?_ hdg kk
  rw [flds_at (by rw [← h3]; exact h2), fvI h4]
theorem gL {idx ci k b : Nat} (X : CX p s mm args meth c cc nL own D ca ad A) (hI : IW D ca ad A s m H locs) (hf : FD own idx ci k 1) (hl : ly ca b = (0, ci)) (hdg : decode cc pc = .ok (.getfield idx, 3))
    (kk : W p l e R s mm args below meth c H locs 0 0 Q (F0 mm (pc + 3) ls (.long (m.2.1 b k) :: rest))) : W p l e R s mm args below meth c H locs 0 0 Q (F0 mm pc ls (.ref (ad b) :: rest)) := by
  obtain ⟨C, T, N, h1, h2, h3, h4, h5, h6⟩ := hf
  obtain ⟨hx, hb, hml, hown, hts, hK, -⟩ := X
  refine va_get (v := .long (m.2.1 b k)) hx hb hts h5 hown hK hI.1 (b - ca 10) (wl_o hl) h1 k h2 (hts _ h6) (fun _ h9 => h9) ?_ hdg kk
  rw [flds_at (by rw [← h3]; exact h2), fvL h4]
theorem gR {idx ci k b q : Nat} (X : CX p s mm args meth c cc nL own D ca ad A) (hI : IW D ca ad A s m H locs) (hf : FD own idx ci k 2) (hl : ly ca b = (0, ci)) (hq : rfi m ci b k = q) (hdg : decode cc pc = .ok (.getfield idx, 3))
    (kk : W p l e R s mm args below meth c H locs 0 0 Q (F0 mm (pc + 3) ls (.ref (ad q) :: rest))) : W p l e R s mm args below meth c H locs 0 0 Q (F0 mm pc ls (.ref (ad b) :: rest)) := by
  obtain ⟨C, T, N, h1, h2, h3, h4, h5, h6⟩ := hf
  obtain ⟨hx, hb, hml, hown, hts, hK, -⟩ := X
  subst hq
  refine va_get (v := .ref (ad (rfi m ci b k))) hx hb hts h5 hown hK hI.1 (b - ca 10) (wl_o hl) h1 k h2 (hts _ h6) (fun _ h9 => h9) ?_ hdg kk
  rw [flds_at (by rw [← h3]; exact h2), fvR h4]
theorem pI {idx ci k b : Nat} {v : Int32} (X : CX p s mm args meth c cc nL own D ca ad A) (hI : IW D ca ad A s m H locs) (hf : FP own idx ci k 0 .int) (hl : ly ca b = (0, ci)) (hdg : decode cc pc = .ok (.putfield idx, 3))
    (kk : ∀ H1 locs1, IW D ca ad A s (mI m b k v) H1 locs1 → W p l e R s mm args below meth c H1 locs1 0 0 Q (F0 mm (pc + 3) ls rest)) : W p l e R s mm args below meth c H locs 0 0 Q (F0 mm pc ls (.int v :: .ref (ad b) :: rest)) := by
  obtain ⟨C, T, N, ty0, h1, h2, h3, h4, h5, h6, h7, h8, h9, h10⟩ := hf
  have hD := wD (m := m) X
  obtain ⟨hx, hb, hml, hown, hts, hK, -⟩ := X
  refine va_put (v := .int v) (ty := .int) hx hb hts h5 ty0 h7 h8 hown hK hI.1 hD hI.2 (b - ca 10) (wl_o hl) h1 k h2 (hts _ h6) (fun _ h9 => h9) h9 (by rw [h7 k h2, h10]) rfl rfl (by rw [flds_len, ← h3]; exact h2) hdg (fun H1 locs1 hP1 hD1 hS1 => kk H1 locs1 ⟨?_, hS1⟩)
  rw [← wl_setI hl h4]
  exact hP1
theorem pZ {idx ci k b : Nat} {v : Int32} (X : CX p s mm args meth c cc nL own D ca ad A) (hI : IW D ca ad A s m H locs) (hf : FP own idx ci k 0 .boolean) (hl : ly ca b = (0, ci)) (hv : v = 0 ∨ v = 1) (hdg : decode cc pc = .ok (.putfield idx, 3))
    (kk : ∀ H1 locs1, IW D ca ad A s (mI m b k v) H1 locs1 → W p l e R s mm args below meth c H1 locs1 0 0 Q (F0 mm (pc + 3) ls rest)) : W p l e R s mm args below meth c H locs 0 0 Q (F0 mm pc ls (.int v :: .ref (ad b) :: rest)) := by
  obtain ⟨C, T, N, ty0, h1, h2, h3, h4, h5, h6, h7, h8, h9, h10⟩ := hf
  have hD := wD (m := m) X
  obtain ⟨hx, hb, hml, hown, hts, hK, -⟩ := X
  refine va_put (v := .int v) (ty := .boolean) hx hb hts h5 ty0 h7 h8 hown hK hI.1 hD hI.2 (b - ca 10) (wl_o hl) h1 k h2 (hts _ h6) (fun _ h9 => h9) h9 (by rw [h7 k h2, h10]) (narZ hv) (fitZ hv) (by rw [flds_len, ← h3]; exact h2) hdg (fun H1 locs1 hP1 hD1 hS1 => kk H1 locs1 ⟨?_, hS1⟩)
  rw [← wl_setI hl h4]
  exact hP1
theorem pL {idx ci k b : Nat} {v : Int64} (X : CX p s mm args meth c cc nL own D ca ad A) (hI : IW D ca ad A s m H locs) (hf : FP own idx ci k 1 .long) (hl : ly ca b = (0, ci)) (hdg : decode cc pc = .ok (.putfield idx, 3))
    (kk : ∀ H1 locs1, IW D ca ad A s (mJ m b k v) H1 locs1 → W p l e R s mm args below meth c H1 locs1 0 0 Q (F0 mm (pc + 3) ls rest)) : W p l e R s mm args below meth c H locs 0 0 Q (F0 mm pc ls (.long v :: .ref (ad b) :: rest)) := by
  obtain ⟨C, T, N, ty0, h1, h2, h3, h4, h5, h6, h7, h8, h9, h10⟩ := hf
  have hD := wD (m := m) X
  obtain ⟨hx, hb, hml, hown, hts, hK, -⟩ := X
  refine va_put (v := .long v) (ty := .long) hx hb hts h5 ty0 h7 h8 hown hK hI.1 hD hI.2 (b - ca 10) (wl_o hl) h1 k h2 (hts _ h6) (fun _ h9 => h9) h9 (by rw [h7 k h2, h10]) rfl rfl (by rw [flds_len, ← h3]; exact h2) hdg (fun H1 locs1 hP1 hD1 hS1 => kk H1 locs1 ⟨?_, hS1⟩)
  rw [← wl_setJ hl h4]
  exact hP1
theorem pR {idx k q : Nat} (X : CX p s mm args meth c cc nL own D ca ad A) (hI : IW D ca ad A s m H locs) (hf : FP own idx 11 k 2 (.object RX6)) (hn : HNc ca) (hk : k = 3 ∨ k = 4) (hdg : decode cc pc = .ok (.putfield idx, 3))
    (kk : ∀ H1 locs1, IW D ca ad A s (mR m k q) H1 locs1 → W p l e R s mm args below meth c H1 locs1 0 0 Q (F0 mm (pc + 3) ls rest)) : W p l e R s mm args below meth c H locs 0 0 Q (F0 mm pc ls (.ref (ad q) :: .ref (ad 0) :: rest)) := by
  obtain ⟨C, T, N, ty0, h1, h2, h3, h4, h5, h6, h7, h8, h9, h10⟩ := hf
  have hD := wD (m := m) X
  obtain ⟨hx, hb, hml, hown, hts, hK, -⟩ := X
  refine va_put (v := .ref (ad q)) (ty := .object RX6) hx hb hts h5 ty0 h7 h8 hown hK hI.1 hD hI.2 (0 - ca 10) (wl_o (c := 11) (ly_of (hn.in (by decide)) rfl)) h1 k h2 (hts _ h6) (fun _ h9 => h9) h9 (by rw [h7 k h2, h10]) rfl rfl (by rw [flds_len, ← h3]; exact h2) hdg (fun H1 locs1 hP1 hD1 hS1 => kk H1 locs1 ⟨?_, hS1⟩)
  rw [← wl_setR hn hk]
  exact hP1
theorem aI {b n : Nat} {i : Int32} (X : CX p s mm args meth c cc nL own D ca ad A) (hI : IW D ca ad A s m H locs) (hl : ly ca b = (1, n)) (hi : ¬ (i < 0 ∨ n ≤ i.toNatClampNeg)) (hdg : decode cc pc = .ok (.iaload, 1))
    (kk : W p l e R s mm args below meth c H locs 0 0 Q (F0 mm (pc + 1) ls (.int (m.1 b i.toNatClampNeg) :: rest))) : W p l e R s mm args below meth c H locs 0 0 Q (F0 mm pc ls (.int i :: .ref (ad b) :: rest)) :=
  va_iald X.1 X.2.1 X.2.2.2.2.2.1 hI.1 (b - ca 10) 0 (wl_i hl) rfl hi hdg kk
theorem aZ {b n : Nat} {i : Int32} (X : CX p s mm args meth c cc nL own D ca ad A) (hI : IW D ca ad A s m H locs) (hl : ly ca b = (2, n)) (hi : ¬ (i < 0 ∨ n ≤ i.toNatClampNeg)) (hdg : decode cc pc = .ok (.baload, 1))
    (kk : W p l e R s mm args below meth c H locs 0 0 Q (F0 mm (pc + 1) ls (.int (m.1 b i.toNatClampNeg) :: rest))) : W p l e R s mm args below meth c H locs 0 0 Q (F0 mm pc ls (.int i :: .ref (ad b) :: rest)) :=
  va_zald X.1 X.2.1 X.2.2.2.2.2.1 hI.1 (b - ca 10) 1 (wl_z hl) rfl hi hdg kk
theorem aB {b n : Nat} {i : Int32} (X : CX p s mm args meth c cc nL own D ca ad A) (hI : IW D ca ad A s m H locs) (hl : ly ca b = (3, n)) (hi : ¬ (i < 0 ∨ n ≤ i.toNatClampNeg)) (hdg : decode cc pc = .ok (.baload, 1))
    (kk : W p l e R s mm args below meth c H locs 0 0 Q (F0 mm (pc + 1) ls (.int (m.1 b i.toNatClampNeg) :: rest))) : W p l e R s mm args below meth c H locs 0 0 Q (F0 mm pc ls (.int i :: .ref (ad b) :: rest)) :=
  va_bald X.1 X.2.1 X.2.2.2.2.2.1 hI.1 (b - ca 10) 2 (wl_b hl) rfl hi hdg kk
theorem aL {b n : Nat} {i : Int32} (X : CX p s mm args meth c cc nL own D ca ad A) (hI : IW D ca ad A s m H locs) (hl : ly ca b = (4, n)) (hi : ¬ (i < 0 ∨ n ≤ i.toNatClampNeg)) (hdg : decode cc pc = .ok (.laload, 1))
    (kk : W p l e R s mm args below meth c H locs 0 0 Q (F0 mm (pc + 1) ls (.long (m.2.1 b i.toNatClampNeg) :: rest))) : W p l e R s mm args below meth c H locs 0 0 Q (F0 mm pc ls (.int i :: .ref (ad b) :: rest)) :=
  va_lald X.1 X.2.1 X.2.2.2.2.2.1 hI.1 (b - ca 10) 3 (wl_l hl) rfl hi hdg kk
theorem sI {b n : Nat} {i x : Int32} (X : CX p s mm args meth c cc nL own D ca ad A) (hI : IW D ca ad A s m H locs) (hl : ly ca b = (1, n)) (hi : ¬ (i < 0 ∨ n ≤ i.toNatClampNeg)) (hdg : decode cc pc = .ok (.iastore, 1))
    (kk : ∀ H1 locs1, IW D ca ad A s (mI m b i.toNatClampNeg x) H1 locs1 → W p l e R s mm args below meth c H1 locs1 0 0 Q (F0 mm (pc + 1) ls rest)) : W p l e R s mm args below meth c H locs 0 0 Q (F0 mm pc ls (.int x :: .int i :: .ref (ad b) :: rest)) := by
  refine va_iast X.1 X.2.1 X.2.2.2.2.2.1 hI.1 (wD X) hI.2 (b - ca 10) 0 (wl_i hl) rfl hi hdg (fun H1 locs1 hP1 hD1 hS1 => kk H1 locs1 ⟨?_, hS1⟩)
  rw [← wl_setA hl]
  exact hP1
theorem sZ {b n : Nat} {i x : Int32} (X : CX p s mm args meth c cc nL own D ca ad A) (hI : IW D ca ad A s m H locs) (hl : ly ca b = (2, n)) (hi : ¬ (i < 0 ∨ n ≤ i.toNatClampNeg)) (hdg : decode cc pc = .ok (.bastore, 1))
    (kk : ∀ H1 locs1, IW D ca ad A s (mI m b i.toNatClampNeg (vp_nar .boolean x)) H1 locs1 → W p l e R s mm args below meth c H1 locs1 0 0 Q (F0 mm (pc + 1) ls rest)) : W p l e R s mm args below meth c H locs 0 0 Q (F0 mm pc ls (.int x :: .int i :: .ref (ad b) :: rest)) := by
  refine va_zast X.1 X.2.1 X.2.2.2.2.2.1 hI.1 (wD X) hI.2 (b - ca 10) 1 (wl_z hl) rfl hi hdg (fun H1 locs1 hP1 hD1 hS1 => kk H1 locs1 ⟨?_, hS1⟩)
  rw [← wl_setZ hl]
  exact hP1
theorem sB {b n : Nat} {i x : Int32} (X : CX p s mm args meth c cc nL own D ca ad A) (hI : IW D ca ad A s m H locs) (hl : ly ca b = (3, n)) (hi : ¬ (i < 0 ∨ n ≤ i.toNatClampNeg)) (hdg : decode cc pc = .ok (.bastore, 1))
    (kk : ∀ H1 locs1, IW D ca ad A s (mI m b i.toNatClampNeg (vp_nar .byte x)) H1 locs1 → W p l e R s mm args below meth c H1 locs1 0 0 Q (F0 mm (pc + 1) ls rest)) : W p l e R s mm args below meth c H locs 0 0 Q (F0 mm pc ls (.int x :: .int i :: .ref (ad b) :: rest)) := by
  refine va_bast X.1 X.2.1 X.2.2.2.2.2.1 hI.1 (wD X) hI.2 (b - ca 10) 2 (wl_b hl) rfl hi hdg (fun H1 locs1 hP1 hD1 hS1 => kk H1 locs1 ⟨?_, hS1⟩)
  rw [← wl_setB hl]
  exact hP1
theorem sL {b n : Nat} {i : Int32} {x : Int64} (X : CX p s mm args meth c cc nL own D ca ad A) (hI : IW D ca ad A s m H locs) (hl : ly ca b = (4, n)) (hi : ¬ (i < 0 ∨ n ≤ i.toNatClampNeg)) (hdg : decode cc pc = .ok (.lastore, 1))
    (kk : ∀ H1 locs1, IW D ca ad A s (mJ m b i.toNatClampNeg x) H1 locs1 → W p l e R s mm args below meth c H1 locs1 0 0 Q (F0 mm (pc + 1) ls rest)) : W p l e R s mm args below meth c H locs 0 0 Q (F0 mm pc ls (.long x :: .int i :: .ref (ad b) :: rest)) := by
  refine va_last X.1 X.2.1 X.2.2.2.2.2.1 hI.1 (wD X) hI.2 (b - ca 10) 3 (wl_l hl) rfl hi hdg (fun H1 locs1 hP1 hD1 hS1 => kk H1 locs1 ⟨?_, hS1⟩)
  rw [← wl_setL hl]
  exact hP1
/-- the length of an int array -/
theorem nA {b n : Nat} (X : CX p s mm args meth c cc nL own D ca ad A) (hI : IW D ca ad A s m H locs) (hl : ly ca b = (1, n)) (hdg : decode cc pc = .ok (.arraylength, 1))
    (kk : W p l e R s mm args below meth c H locs 0 0 Q (F0 mm (pc + 1) ls (.int (Int32.ofNat n) :: rest))) : W p l e R s mm args below meth c H locs 0 0 Q (F0 mm pc ls (.ref (ad b) :: rest)) :=
  va_alen X.1 X.2.1 X.2.2.2.2.2.1 hI.1 (b - ca 10) 0 (wl_i hl) rfl rfl hdg kk
theorem nZ {b n : Nat} (X : CX p s mm args meth c cc nL own D ca ad A) (hI : IW D ca ad A s m H locs) (hl : ly ca b = (2, n)) (hdg : decode cc pc = .ok (.arraylength, 1))
    (kk : W p l e R s mm args below meth c H locs 0 0 Q (F0 mm (pc + 1) ls (.int (Int32.ofNat n) :: rest))) : W p l e R s mm args below meth c H locs 0 0 Q (F0 mm pc ls (.ref (ad b) :: rest)) :=
  va_alen X.1 X.2.1 X.2.2.2.2.2.1 hI.1 (b - ca 10) 1 (wl_z hl) rfl rfl hdg kk
theorem nB {b n : Nat} (X : CX p s mm args meth c cc nL own D ca ad A) (hI : IW D ca ad A s m H locs) (hl : ly ca b = (3, n)) (hdg : decode cc pc = .ok (.arraylength, 1))
    (kk : W p l e R s mm args below meth c H locs 0 0 Q (F0 mm (pc + 1) ls (.int (Int32.ofNat n) :: rest))) : W p l e R s mm args below meth c H locs 0 0 Q (F0 mm pc ls (.ref (ad b) :: rest)) :=
  va_alen X.1 X.2.1 X.2.2.2.2.2.1 hI.1 (b - ca 10) 2 (wl_b hl) rfl rfl hdg kk
theorem rI {v r : Int32} {m' : Mem} (X : CX p s mm args meth c cc nL own D ca ad (WA ca ad s.heap.size)) (hI : IW D ca ad (WA ca ad s.heap.size) s m H locs) (hr : meth.sig.returnType = some .int) (h1 : v = r) (h2 : m = m') (hdg : decode cc pc = .ok (.ireturn, 1)) :
    W p l e R s mm args below meth c H locs 0 0 (MQ below (QI D ca ad s.heap.size r m') args s 0 0 (WA ca ad s.heap.size)) (F0 mm pc ls [.int v]) := by
  subst h1; subst h2
  have hlocks : meth.locks = false := X.2.2.2.2.2.2.2.2.2.1
  exact W.iret X.1 X.2.1 hr (fun t ht hW => ⟨⟨v, m, rfl, ⟨rfl, rfl⟩, by rw [ht]; exact hI.1, va_K.moved hW.alike X.2.2.2.2.2.1⟩, hI.2.F ht⟩) hI.2.2.2 hdg
theorem rZ {v r : Int32} {m' : Mem} (X : CX p s mm args meth c cc nL own D ca ad (WA ca ad s.heap.size)) (hI : IW D ca ad (WA ca ad s.heap.size) s m H locs) (hr : meth.sig.returnType = some .boolean) (hv : v = 0 ∨ v = 1) (h1 : v = r) (h2 : m = m') (hdg : decode cc pc = .ok (.ireturn, 1)) :
    W p l e R s mm args below meth c H locs 0 0 (MQ below (QI D ca ad s.heap.size r m') args s 0 0 (WA ca ad s.heap.size)) (F0 mm pc ls [.int v]) := by
  subst h1; subst h2
  have hlocks : meth.locks = false := X.2.2.2.2.2.2.2.2.2.1
  exact W.zret X.1 X.2.1 hr (narZ hv) (fun t ht hW => ⟨⟨v, m, rfl, ⟨rfl, rfl⟩, by rw [ht]; exact hI.1, va_K.moved hW.alike X.2.2.2.2.2.1⟩, hI.2.F ht⟩) hI.2.2.2 hdg
theorem rL {v r : Int64} {m' : Mem} (X : CX p s mm args meth c cc nL own D ca ad (WA ca ad s.heap.size)) (hI : IW D ca ad (WA ca ad s.heap.size) s m H locs) (hr : meth.sig.returnType = some .long) (h1 : v = r) (h2 : m = m') (hdg : decode cc pc = .ok (.lreturn, 1)) :
    W p l e R s mm args below meth c H locs 0 0 (MQ below (QL D ca ad s.heap.size r m') args s 0 0 (WA ca ad s.heap.size)) (F0 mm pc ls [.long v]) := by
  subst h1; subst h2
  have hlocks : meth.locks = false := X.2.2.2.2.2.2.2.2.2.1
  exact W.lret X.1 X.2.1 hr (fun t ht hW => ⟨⟨v, m, rfl, ⟨rfl, rfl⟩, by rw [ht]; exact hI.1, va_K.moved hW.alike X.2.2.2.2.2.1⟩, hI.2.F ht⟩) hI.2.2.2 hdg
theorem rV {m' : Mem} (X : CX p s mm args meth c cc nL own D ca ad (WA ca ad s.heap.size)) (hI : IW D ca ad (WA ca ad s.heap.size) s m H locs) (hr : meth.sig.returnType = none) (h2 : m = m') (hdg : decode cc pc = .ok (.return_, 1)) :
    W p l e R s mm args below meth c H locs 0 0 (MQ below (QV D ca ad s.heap.size m') args s 0 0 (WA ca ad s.heap.size)) (F0 mm pc ls []) := by
  subst h2
  have hlocks : meth.locks = false := X.2.2.2.2.2.2.2.2.2.1
  exact W.vret X.1 X.2.1 hr (fun t ht hW => ⟨⟨m, rfl, rfl, by rw [ht]; exact hI.1, va_K.moved hW.alike X.2.2.2.2.2.1⟩, hI.2.F ht⟩) hI.2.2.2 hdg
theorem pw_blind {av : List Value} {sz : Nat} : FrameBlind (va_Pc av (PW D ca ad m sz)) := fun a U g mk q => by
  obtain ⟨q0, q1, qP, qK, qD, qS⟩ := q
  exact ⟨q0, q1, qP, va_K.moved (u := U) (U := U.calling g mk a) (Vm.Alike.refl U.vm) qK, qD, SK.call qS⟩
theorem wa_A (X : CX p s mm args meth c cc nL own D ca ad A) (hS : va_S A s.heap H locs) : ∀ q, WA ca ad H.size q → A q := fun q h => by
  rcases h with ⟨i, h1, rfl⟩ | h
  · exact X.2.2.2.2.2.2.2.1 i h1
  · exact X.2.2.2.2.2.2.2.2.1 q (Nat.le_trans hS.1 h)
theorem pw_at {av : List Value} (X : CX p s mm args meth c cc nL own D ca ad A) (hI : IW D ca ad A s m H locs) : ∀ U : State, U.heap = H → s.WarmedH U.vm → va_Pc av (PW D ca ad m H.size) av.toArray U := fun U hU hW =>
  ⟨rfl, by rw [hU], by rw [hU]; exact hI.1, va_K.moved hW.alike X.2.2.2.2.2.1, X.2.2.2.2.2.2.1, by rw [hU]; exact ((X.2.2.2.2.2.2.2.2.2.2.kept (fun q h1 h2 => hI.2.2.1 q h1 h2)).narrow (wa_A X hI.2)).warm hW⟩
theorem big_in {y : MethodName} {bytes : ByteArray} {maxL : Nat} {ret : Option FieldType} (h : Cond.code y bytes maxL ret ∈ BIG) : GoodIn BIG (Cond.code y bytes maxL ret :: BIG) := fun w hw => by
  rcases List.mem_cons.mp hw with rfl | hw
  · exact ⟨h, BIG_good _ h⟩
  · exact ⟨hw, BIG_good _ hw⟩
theorem cb_of {y : MethodName} {bytes : ByteArray} {maxL idx n : Nat} {ret : Option FieldType} {rm : Room} (X : CX p s mm args meth c cc nL own D ca ad A) (h1 : Cond.methodLink own idx y ∈ BIG) (h2 : Cond.initialized y.cls ∈ BIG) (h3 : Cond.code y bytes maxL ret ∈ BIG) (h4 : y.cls ≠ "java/lang/invoke/MethodHandle" ∧ y.cls ≠ "java/lang/invoke/VarHandle" ∧ (parseMethodDescriptor y.desc).map (fun d => d.parameters.length) = some n)
    (hc : rm.cells = 0 ∧ rm.slots = 0) (hR : rm.frames + 1 ≤ R.frames ∧ 8 + (maxL + 11) + rm.locals ≤ R.locals) : CallB R s args own idx y bytes maxL ret (Cond.code y bytes maxL ret :: BIG) rm 0 0 n :=
  have hts := X.2.2.2.2.1
  callB_of n hts (big_in h3) rfl hc.1 hc.2 (hts _ h2) (hts _ h1) h4 hR
section CALL
variable {y : MethodName} {bytes : ByteArray} {maxL idx n b ci : Nat} {ret : Option FieldType} {rm : Room} {As : List Value} {m' : Mem} {st0 : List Value}
theorem runV {Qc : Array Value → State → Outcome → State → Prop} (X : CX p s mm args meth c cc nL own D ca ad A) (hI : IW D ca ad A s m H locs) (hM : Met l y (Cond.code y bytes maxL ret :: BIG) rm (va_Pc (.ref (ad b) :: As) (PW D ca ad m H.size)) Qc 0 0 (WA ca ad H.size)) (hm : MD own idx y (Cond.code y bytes maxL ret) n) (hl : ly ca b = (0, ci)) (hci : (clsL[ci]?).map (fun q => q.1) = some y.cls)
    (hc : rm.cells = 0 ∧ rm.slots = 0) (hR : rm.frames + 1 ≤ R.frames ∧ 8 + (maxL + 11) + rm.locals ≤ R.locals) (hn : As.length = n) (hz : ls.size = nL) (hst : st0 = As.reverse ++ .ref (ad b) :: rest) (hW : (rest.map fun v => v.category).sum ≤ 8) (hdg : decode cc pc = .ok (.invokevirtual idx, 3)) :
    va_Run p l e R s mm args below meth c H locs 0 0 0 0 (F0 mm pc ls st0) rest (Qc (Value.ref (ad b) :: As).toArray) (WA ca ad H.size) := by
  obtain ⟨h1, h2, h3, h4, h5, h6⟩ := hm
  have hts := X.2.2.2.2.1
  cases hq : clsL[ci]? with
  | none => rw [hq] at hci; cases hci
  | some q =>
    have hcl : q.1 = y.cls := by rw [hq] at hci; exact Option.some.inj hci
    refine va_runV (Ts := BIG) (C := y.cls) ⟨X.1, X.2.1, X.2.2.1, X.2.2.2.1, hts⟩ hM ⟨cb_of X h1 h4 h5 h6 hc hR, hts _ h2, hts _ h3⟩ ⟨pw_blind, ?_, pw_at X hI⟩ rfl hn hz hst (lv_room hW) hdg ⟨Nat.zero_le _, Nat.zero_le _⟩
    rw [← hcl]
    exact va_recv X.2.2.2.2.2.1 hI.1 hq (wl_o hl)
theorem runS {Qc : Array Value → State → Outcome → State → Prop} (X : CX p s mm args meth c cc nL own D ca ad A) (hI : IW D ca ad A s m H locs) (hM : Met l y (Cond.code y bytes maxL ret :: BIG) rm (va_Pc As (PW D ca ad m H.size)) Qc 0 0 (WA ca ad H.size)) (hm : MS own idx y (Cond.code y bytes maxL ret) n)
    (hc : rm.cells = 0 ∧ rm.slots = 0) (hR : rm.frames + 1 ≤ R.frames ∧ 8 + (maxL + 11) + rm.locals ≤ R.locals) (hn : As.length = n) (hz : ls.size = nL) (hst : st0 = As.reverse ++ rest) (hW : (rest.map fun v => v.category).sum ≤ 8) (hdg : decode cc pc = .ok (.invokestatic idx, 3)) :
    va_Run p l e R s mm args below meth c H locs 0 0 0 0 (F0 mm pc ls st0) rest (Qc As.toArray) (WA ca ad H.size) := by
  obtain ⟨h1, h2, h4, h5, h6⟩ := hm
  have hts := X.2.2.2.2.1
  exact va_runS (Ts := BIG) ⟨X.1, X.2.1, X.2.2.1, X.2.2.2.1, hts⟩ hM ⟨cb_of X h1 h4 h5 h6 hc hR, hts _ h2⟩ ⟨pw_blind, pw_at X hI⟩ rfl hn hz hst (lv_room hW) hdg ⟨Nat.zero_le _, Nat.zero_le _⟩
theorem backI {r : Int32} {a : Array Value} (X : CX p s mm args meth c cc nL own D ca ad A) (hI : IW D ca ad A s m H locs) (hr : va_Run p l e R s mm args below meth c H locs 0 0 0 0 (F0 mm pc ls st0) rest (QI D ca ad H.size r m' a) (WA ca ad H.size))
    (kk : ∀ H1 locs1, IW D ca ad A s m' H1 locs1 → W p l e R s mm args below meth c H1 locs1 0 0 Q (F0 mm (pc + 3) ls (.int r :: rest))) : W p l e R s mm args below meth c H locs 0 0 Q (F0 mm pc ls st0) := by
  refine va_calli hr hI.2 (fun q _ h => wa_A X hI.2 q h) (wa_A X hI.2) (fun r1 u t H1 locs1 ht hvm hw hB hz1 hk1 hS => ?_)
  obtain ⟨rfl, rfl⟩ := hw
  exact kk H1 locs1 ⟨by rw [← ht]; exact hB.1, hS⟩
theorem backL {r : Int64} {a : Array Value} (X : CX p s mm args meth c cc nL own D ca ad A) (hI : IW D ca ad A s m H locs) (hr : va_Run p l e R s mm args below meth c H locs 0 0 0 0 (F0 mm pc ls st0) rest (QL D ca ad H.size r m' a) (WA ca ad H.size))
    (kk : ∀ H1 locs1, IW D ca ad A s m' H1 locs1 → W p l e R s mm args below meth c H1 locs1 0 0 Q (F0 mm (pc + 3) ls (.long r :: rest))) : W p l e R s mm args below meth c H locs 0 0 Q (F0 mm pc ls st0) := by
  refine va_calll hr hI.2 (fun q _ h => wa_A X hI.2 q h) (wa_A X hI.2) (fun r1 u t H1 locs1 ht hvm hw hB hz1 hk1 hS => ?_)
  obtain ⟨rfl, rfl⟩ := hw
  exact kk H1 locs1 ⟨by rw [← ht]; exact hB.1, hS⟩
theorem backV {a : Array Value} (X : CX p s mm args meth c cc nL own D ca ad A) (hI : IW D ca ad A s m H locs) (hr : va_Run p l e R s mm args below meth c H locs 0 0 0 0 (F0 mm pc ls st0) rest (QV D ca ad H.size m' a) (WA ca ad H.size))
    (kk : ∀ H1 locs1, IW D ca ad A s m' H1 locs1 → W p l e R s mm args below meth c H1 locs1 0 0 Q (F0 mm (pc + 3) ls rest)) : W p l e R s mm args below meth c H locs 0 0 Q (F0 mm pc ls st0) := by
  refine va_callv hr hI.2 (fun q _ h => wa_A X hI.2 q h) (wa_A X hI.2) (fun u t H1 locs1 ht hvm hw hB hz1 hk1 hS => ?_)
  subst hw
  exact kk H1 locs1 ⟨by rw [← ht]; exact hB.1, hS⟩
end CALL
/-- a method's walk from its entry -/
theorem start {y : MethodName} {maxL : Nat} {ret : Option FieldType} {rm : Room} {av : List Value} {Qc : Nat → Array Value → State → Outcome → State → Prop} (hy : plainName y.cls = true) (hlen : (lg_sl av).length ≤ maxL)
    (body : ∀ p e s mm args below meth c H locs ls, CX p s mm args meth c cc maxL y.cls D ca ad (WA ca ad s.heap.size) → IW D ca ad (WA ca ad s.heap.size) s m H locs → meth.sig.returnType = ret → lv_has ls maxL (lv_args 0 av) → W p l e rm s mm args below meth c H locs 0 0 (MQ below (Qc s.heap.size) args s 0 0 (WA ca ad s.heap.size)) (F0 mm 0 ls [])) :
    ∀ sz, Met l y (Cond.code y cc maxL ret :: BIG) rm (va_Pc av (PW D ca ad m sz)) (Qc sz) 0 0 (WA ca ad sz) := by
  intro sz
  refine Met.ofW (cc := cc) (maxL := maxL) (ret := ret) hy rfl ?_
  intro p e s mm args below meth c s₁ B hml hv
  obtain ⟨rfl, hsz, hP, hK, had, hsk⟩ := hv
  subst hsz
  have hts := atoms_spec (ws := Cond.code y cc maxL ret :: BIG) B.pre
  rw [lg_entry_eq]
  exact body p e s mm av.toArray below meth c s.heap [] _ ⟨B.exec, B.bytes, hml, findClass_of_methodNamed B.named, fun w hw => hts w (List.mem_cons_of_mem _ hw), hK, had, fun i hi => Or.inl ⟨i, hi, rfl⟩, fun q hq => Or.inr hq, B.notSynchronized, hsk⟩ ⟨hP, va_S.rf⟩ B.returns (lv_entry av hlen)
end ROWS
