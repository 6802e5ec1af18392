abbrev cwX8_init : Cond := .code yX8_init cX8_init 2 none
theorem cmX8_init : cwX8_init ∈ BIG := (tb1 (List.mem_of_getElem? (i := 38) rfl) rfl)
theorem pdX8_init : yX8_init.cls ≠ "java/lang/invoke/MethodHandle" ∧ yX8_init.cls ≠ "java/lang/invoke/VarHandle" ∧ (parseMethodDescriptor yX8_init.desc).map (fun d => d.parameters.length) = some 1 := by decide +kernel
theorem moX8_3 : Cond.methodLink RX8 3 Lib.objectInit ∈ BIG := (tb1 (List.mem_of_getElem? (i := 39) rfl) rfl)
theorem ffX8_13 : FPF RX8 13 8 1 2 (.array .int) := ⟨RX8, TX8, 9, tyX8, rfl, by decide, rfl, rfl, inBX8, lkX8_13, tyX8_ok, nmX8, rfl, rfl, rfl⟩
theorem ffX8_17 : FPF RX8 17 8 2 2 (.array .boolean) := ⟨RX8, TX8, 9, tyX8, rfl, by decide, rfl, rfl, inBX8, lkX8_17, tyX8_ok, nmX8, rfl, rfl, rfl⟩
theorem nwX8_25 : NW RX8 25 10 [.null, .null, .int 0, .int 0, .int 0, .int 0, .int 0] 7 := ⟨RX10, TX10, tyX10, rfl, inBX10, tyX10_ok, (tb1 (List.mem_of_getElem? (i := 40) rfl) rfl), (tb1 (List.mem_of_getElem? (i := 41) rfl) rfl), (tb1 (List.mem_of_getElem? (i := 3) rfl) rfl), fun j hj => by
  match j, hj with
  | 0, _ => rfl
  | 1, _ => rfl
  | 2, _ => rfl
  | 3, _ => rfl
  | 4, _ => rfl
  | 5, _ => rfl
  | 6, _ => rfl
  | j + 7, hj => exact absurd hj (by omega)⟩
theorem miX8_27 : MI RX8 27 yX10_init cwX10_init 1 := ⟨(tb1 (List.mem_of_getElem? (i := 42) rfl) rfl), (tb1 (List.mem_of_getElem? (i := 43) rfl) rfl), (tb1 (List.mem_of_getElem? (i := 3) rfl) rfl), cmX10_init, rfl, pdX10_init⟩
theorem ffX8_30 : FPF RX8 30 8 0 2 (.object RX10) := ⟨RX8, TX8, 9, tyX8, rfl, by decide, rfl, rfl, inBX8, lkX8_30, tyX8_ok, nmX8, rfl, rfl, rfl⟩
abbrev nlX8_init (ca : Nat → Nat) (tb : Nat) (a : Nat → Nat) : va_W := [((a 0), .inr (8, [.ref (a 3), .ref (a 1), .ref (a 2), .int 0, .int 0, .int 0, .int 0, .int 0, .int (-1 : Int32)])), ((a 1), .inl (ca 0, 72, .inl (fun _ => 0))), ((a 2), .inl (ca 1, 9, .inl (fun _ => 0))), ((a 3), .inr (10, [.ref tb, .ref (a 4), .int 0, .int 0, .int 0, .int 0, .int 0])), ((a 4), .inl (ca 0, 21, .inl (wrdAt 106)))]
abbrev rmcX8_init : Room := { frames := 5, cells := 4, slots := 109, locals := 125 }
set_option maxHeartbeats 4000000 in
set_option maxRecDepth 100000 in
theorem ccX8_init {l : Launch} {D : va_G} {ca : Nat → ClassId} (h0 : Nat) (tb : Nat) : CC l D ca yX8_init cwX8_init rmcX8_init [.ref h0, .ref tb] [(h0, .inr (8, [.null, .null, .null, .int 0, .int 0, .int 0, .int 0, .int 0, .int 0]))] h0 (nlX8_init ca tb) 4 109 := by
  refine startC (by decide) rfl (Nat.le_of_ble_eq_true rfl) ?_
  intro p e s mm args below meth c ls X hin hr hP hD hS hl
  have X : CXc p s mm args meth c cX8_init 2 RX8 D ca (va_A [(h0, .inr (8, [.null, .null, .null, .int 0, .int 0, .int 0, .int 0, .int 0, .int 0]))] s.heap.size) := X
  have hx := X.1
  have hb := X.2.1
  have hl : lv_has ls 2 [(0, .ref h0), (1, .ref tb)] := hl
  refine lv_aload_n hx hb dX8_init_0 rfl (lv_at hl 0 rfl) ?_
  refine xObj X moX8_3 hl.1 dX8_init_1 (Nat.le_of_ble_eq_true rfl) (Nat.le_of_ble_eq_true rfl) ?_
  refine lv_aload_n hx hb dX8_init_4 rfl (lv_at hl 0 rfl) ?_
  refine lv_bipush (v := (72 : Int32)) hx hb dX8_init_5 (by decide) ?_
  refine xNewI (N' := 72) X hP hD hS (by decide) (by decide) (Nat.le_of_ble_eq_true rfl) (Nat.le_of_ble_eq_true rfl) (Nat.le_of_ble_eq_true rfl) dX8_init_7 (fun q1 H hP hD hS => ?_)
  have hP : va_P D clsL [(h0, .inr (8, [.null, .null, .null, .int 0, .int 0, .int 0, .int 0, .int 0, .int 0])), (q1, .inl (ca 0, 72, .inl (fun _ => 0)))] H := hP
  have hD : va_D (va_A [(h0, .inr (8, [.null, .null, .null, .int 0, .int 0, .int 0, .int 0, .int 0, .int 0]))] s.heap.size) [(h0, .inr (8, [.null, .null, .null, .int 0, .int 0, .int 0, .int 0, .int 0, .int 0])), (q1, .inl (ca 0, 72, .inl (fun _ => 0)))] := hD
  refine W.widen (k := 1) (n := 72) (Nat.le_of_ble_eq_true rfl) (Nat.le_of_ble_eq_true rfl) ?_
  refine xPutF X hin hP hD hS ffX8_13 0 rfl rfl rfl (Nat.le_of_ble_eq_true rfl) dX8_init_9 (fun H locs hP hD hS => ?_)
  have hP : va_P D clsL [(h0, .inr (8, [.null, .ref q1, .null, .int 0, .int 0, .int 0, .int 0, .int 0, .int 0])), (q1, .inl (ca 0, 72, .inl (fun _ => 0)))] H := hP
  have hD : va_D (va_A [(h0, .inr (8, [.null, .null, .null, .int 0, .int 0, .int 0, .int 0, .int 0, .int 0]))] s.heap.size) [(h0, .inr (8, [.null, .ref q1, .null, .int 0, .int 0, .int 0, .int 0, .int 0, .int 0])), (q1, .inl (ca 0, 72, .inl (fun _ => 0)))] := hD
  refine lv_aload_n hx hb dX8_init_12 rfl (lv_at hl 0 rfl) ?_
  refine lv_bipush (v := (9 : Int32)) hx hb dX8_init_13 (by decide) ?_
  refine xNewZ (N' := 9) X hP hD hS (by decide) (by decide) (Nat.le_of_ble_eq_true rfl) (Nat.le_of_ble_eq_true rfl) (Nat.le_of_ble_eq_true rfl) dX8_init_15 (fun q2 H hP hD hS => ?_)
  have hP : va_P D clsL [(h0, .inr (8, [.null, .ref q1, .null, .int 0, .int 0, .int 0, .int 0, .int 0, .int 0])), (q1, .inl (ca 0, 72, .inl (fun _ => 0))), (q2, .inl (ca 1, 9, .inl (fun _ => 0)))] H := hP
  have hD : va_D (va_A [(h0, .inr (8, [.null, .null, .null, .int 0, .int 0, .int 0, .int 0, .int 0, .int 0]))] s.heap.size) [(h0, .inr (8, [.null, .ref q1, .null, .int 0, .int 0, .int 0, .int 0, .int 0, .int 0])), (q1, .inl (ca 0, 72, .inl (fun _ => 0))), (q2, .inl (ca 1, 9, .inl (fun _ => 0)))] := hD
  refine W.widen (k := 2) (n := 81) (Nat.le_of_ble_eq_true rfl) (Nat.le_of_ble_eq_true rfl) ?_
  refine xPutF X hin hP hD hS ffX8_17 0 rfl rfl rfl (Nat.le_of_ble_eq_true rfl) dX8_init_17 (fun H locs hP hD hS => ?_)
  have hP : va_P D clsL [(h0, .inr (8, [.null, .ref q1, .ref q2, .int 0, .int 0, .int 0, .int 0, .int 0, .int 0])), (q1, .inl (ca 0, 72, .inl (fun _ => 0))), (q2, .inl (ca 1, 9, .inl (fun _ => 0)))] H := hP
  have hD : va_D (va_A [(h0, .inr (8, [.null, .null, .null, .int 0, .int 0, .int 0, .int 0, .int 0, .int 0]))] s.heap.size) [(h0, .inr (8, [.null, .ref q1, .ref q2, .int 0, .int 0, .int 0, .int 0, .int 0, .int 0])), (q1, .inl (ca 0, 72, .inl (fun _ => 0))), (q2, .inl (ca 1, 9, .inl (fun _ => 0)))] := hD
  refine lv_aload_n hx hb dX8_init_20 rfl (lv_at hl 0 rfl) ?_
  refine lv_iconst (v := (-1 : Int32)) hx hb dX8_init_21 (by decide) ?_
  refine xPut X hP hD hS fpX8_21 0 rfl rfl rfl (Nat.le_of_ble_eq_true rfl) dX8_init_22 (fun H locs hP hD hS => ?_)
  have hP : va_P D clsL [(h0, .inr (8, [.null, .ref q1, .ref q2, .int 0, .int 0, .int 0, .int 0, .int 0, .int (-1 : Int32)])), (q1, .inl (ca 0, 72, .inl (fun _ => 0))), (q2, .inl (ca 1, 9, .inl (fun _ => 0)))] H := hP
  have hD : va_D (va_A [(h0, .inr (8, [.null, .null, .null, .int 0, .int 0, .int 0, .int 0, .int 0, .int 0]))] s.heap.size) [(h0, .inr (8, [.null, .ref q1, .ref q2, .int 0, .int 0, .int 0, .int 0, .int 0, .int (-1 : Int32)])), (q1, .inl (ca 0, 72, .inl (fun _ => 0))), (q2, .inl (ca 1, 9, .inl (fun _ => 0)))] := hD
  refine lv_aload_n hx hb dX8_init_25 rfl (lv_at hl 0 rfl) ?_
  refine xNew X hP hD hS nwX8_25 (Nat.le_of_ble_eq_true rfl) (Nat.le_of_ble_eq_true rfl) dX8_init_26 (fun q3 H hP hD hS => ?_)
  have hP : va_P D clsL [(h0, .inr (8, [.null, .ref q1, .ref q2, .int 0, .int 0, .int 0, .int 0, .int 0, .int (-1 : Int32)])), (q1, .inl (ca 0, 72, .inl (fun _ => 0))), (q2, .inl (ca 1, 9, .inl (fun _ => 0))), (q3, .inr (10, [.null, .null, .int 0, .int 0, .int 0, .int 0, .int 0]))] H := hP
  have hD : va_D (va_A [(h0, .inr (8, [.null, .null, .null, .int 0, .int 0, .int 0, .int 0, .int 0, .int 0]))] s.heap.size) [(h0, .inr (8, [.null, .ref q1, .ref q2, .int 0, .int 0, .int 0, .int 0, .int 0, .int (-1 : Int32)])), (q1, .inl (ca 0, 72, .inl (fun _ => 0))), (q2, .inl (ca 1, 9, .inl (fun _ => 0))), (q3, .inr (10, [.null, .null, .int 0, .int 0, .int 0, .int 0, .int 0]))] := hD
  refine W.widen (k := 3) (n := 88) (Nat.le_of_ble_eq_true rfl) (Nat.le_of_ble_eq_true rfl) ?_
  refine lv_dup hx hb dX8_init_29 rfl ?_
  refine lv_aload_n hx hb dX8_init_30 rfl (lv_at hl 1 rfl) ?_
  refine callC (wc := [(q3, .inr (10, [.null, .null, .int 0, .int 0, .int 0, .int 0, .int 0]))]) (wr := [(h0, .inr (8, [.null, .ref q1, .ref q2, .int 0, .int 0, .int 0, .int 0, .int 0, .int (-1 : Int32)])), (q1, .inl (ca 0, 72, .inl (fun _ => 0))), (q2, .inl (ca 1, 9, .inl (fun _ => 0)))]) X hP hD hS (ccX10_init q3 tb) miX8_27 [3] [0, 1, 2] rfl rfl (by decide) (by decide) (by decide) ⟨rfl, rfl⟩ ⟨Nat.le_of_ble_eq_true rfl, Nat.le_of_ble_eq_true rfl⟩ rfl hl.1 rfl (Nat.le_of_ble_eq_true rfl) dX8_init_31 ⟨Nat.le_of_ble_eq_true rfl, Nat.le_of_ble_eq_true rfl⟩ (fun a4 H locs ea4 hP hD hS => ?_)
  have hP : va_P D clsL [(h0, .inr (8, [.null, .ref q1, .ref q2, .int 0, .int 0, .int 0, .int 0, .int 0, .int (-1 : Int32)])), (q1, .inl (ca 0, 72, .inl (fun _ => 0))), (q2, .inl (ca 1, 9, .inl (fun _ => 0))), ((a4 0), .inr (10, [.ref tb, .ref (a4 1), .int 0, .int 0, .int 0, .int 0, .int 0])), ((a4 1), .inl (ca 0, 21, .inl (wrdAt 106)))] H := hP
  have hD : va_D (va_A [(h0, .inr (8, [.null, .null, .null, .int 0, .int 0, .int 0, .int 0, .int 0, .int 0]))] s.heap.size) [(h0, .inr (8, [.null, .ref q1, .ref q2, .int 0, .int 0, .int 0, .int 0, .int 0, .int (-1 : Int32)])), (q1, .inl (ca 0, 72, .inl (fun _ => 0))), (q2, .inl (ca 1, 9, .inl (fun _ => 0))), ((a4 0), .inr (10, [.ref tb, .ref (a4 1), .int 0, .int 0, .int 0, .int 0, .int 0])), ((a4 1), .inl (ca 0, 21, .inl (wrdAt 106)))] := hD
  rw [ea4] at hP hD
  refine W.widen (k := 4) (n := 109) (Nat.le_of_ble_eq_true rfl) (Nat.le_of_ble_eq_true rfl) ?_
  refine xPutF X hin hP hD hS ffX8_30 0 rfl rfl rfl (Nat.le_of_ble_eq_true rfl) dX8_init_34 (fun H locs hP hD hS => ?_)
  have hP : va_P D clsL [(h0, .inr (8, [.ref q3, .ref q1, .ref q2, .int 0, .int 0, .int 0, .int 0, .int 0, .int (-1 : Int32)])), (q1, .inl (ca 0, 72, .inl (fun _ => 0))), (q2, .inl (ca 1, 9, .inl (fun _ => 0))), (q3, .inr (10, [.ref tb, .ref (a4 1), .int 0, .int 0, .int 0, .int 0, .int 0])), ((a4 1), .inl (ca 0, 21, .inl (wrdAt 106)))] H := hP
  have hD : va_D (va_A [(h0, .inr (8, [.null, .null, .null, .int 0, .int 0, .int 0, .int 0, .int 0, .int 0]))] s.heap.size) [(h0, .inr (8, [.ref q3, .ref q1, .ref q2, .int 0, .int 0, .int 0, .int 0, .int 0, .int (-1 : Int32)])), (q1, .inl (ca 0, 72, .inl (fun _ => 0))), (q2, .inl (ca 1, 9, .inl (fun _ => 0))), (q3, .inr (10, [.ref tb, .ref (a4 1), .int 0, .int 0, .int 0, .int 0, .int 0])), ((a4 1), .inl (ca 0, 21, .inl (wrdAt 106)))] := hD
  exact xRet X hr (fun i => [h0, q1, q2, q3, (a4 1)].getD i 0) rfl hP hD hS dX8_init_37
def cca (ca : Nat → Nat) : Nat → Nat := fun k => if k = 9 then 99 else if k = 10 then 0 else ca k
def rca (ca : Nat → Nat) : Nat → Nat := fun k => if k = 9 then 143 else if k = 10 then 99 else ca k
theorem HNc_c (ca : Nat → Nat) : HNc (cca ca) := ⟨rfl, Nat.le_refl 99⟩
theorem HNr_r (ca : Nat → Nat) : HNr (rca ca) := ⟨Nat.le_refl 99, Nat.le_refl 143⟩
theorem SK.to {ca cb : Nat → Nat} (e : ∀ k, k < 9 → cb k = ca k) {A : Nat → Prop} {s : State} {H : Heap} (h : SK ca A s H) : SK cb A s H := by
  refine ⟨⟨fun i hi => ?_, fun i j hi hj => ?_⟩, h.2.1, h.2.2.1, ?_, ?_⟩
  · have h1 := h.1.1 i hi
    dsimp only at h1 ⊢
    rw [e (4 + i) (by omega), e (6 + i) (by omega)]
    exact h1
  · have h1 := h.1.2 i j hi hj
    dsimp only at h1 ⊢
    rw [e (4 + i) (by omega), e (4 + j) (by omega)]
    exact h1
  · rw [e 4 (by decide)]
    exact h.2.2.2.1
  · rw [e 5 (by decide)]
    exact h.2.2.2.2
theorem cca_e (ca : Nat → Nat) : ∀ k, k < 9 → cca ca k = ca k := fun k hk => by
  unfold cca
  rw [if_neg (by omega), if_neg (by omega)]
theorem rca_e (ca : Nat → Nat) : ∀ k, k < 9 → rca ca k = ca k := fun k hk => by
  unfold rca
  rw [if_neg (by omega), if_neg (by omega)]
theorem adI_of {ca ad : Nat → Nat} {A : Nat → Prop} {m : Mem} (h : va_D A (wl ca ad m)) : adI ca ad ∧ ∀ i, (ca 10 ≤ i ∧ i < ca 9) → A (ad i) := by
  refine ⟨fun i j hi hj e => ?_, fun i hi => h.2 _ _ (wl_at hi)⟩
  have h1 := h.1 _ _ _ _ (wl_at (m := m) hi) (wl_at (m := m) hj) e
  have h2 : i = ca 10 + (i - ca 10) := (Nat.add_sub_cancel' hi.1).symm
  rw [h2, h1]
  exact Nat.add_sub_cancel' hj.1
section TOP
variable {p : Program} {l : Launch} {e : Env} {R : Room} {s : State} {mm : MethodId} {args : Array Value} {below : List Frame} {meth : Method} {c : Code} {H : Heap} {locs : List Loc} {cells slots : Nat} {Q : State → Prop}
variable {cc : ByteArray} {nL : Nat} {own : String} {D : va_G} {ca cb ad : Nat → Nat} {A : Nat → Prop} {pc : Nat} {ls : Array Slot} {rest : List Value} {m : Mem}
theorem toX (X : CXc p s mm args meth c cc nL own D ca A) (e : ∀ k, k < 9 → cb k = ca k) (hD : va_D A (wl cb ad m)) : CX p s mm args meth c cc nL own D cb ad A := by
  refine ⟨X.1, X.2.1, X.2.2.1, X.2.2.2.1, X.2.2.2.2.1, ?_, (adI_of hD).1, (adI_of hD).2, X.2.2.2.2.2.2.1, X.2.2.2.2.2.2.2.1, X.2.2.2.2.2.2.2.2.to e⟩
  have h := X.2.2.2.2.2.1
  show va_K D clsL [(cb 0, .int), (cb 1, .boolean), (cb 2, .byte), (cb 3, .long)] s
  rw [e 0 (by decide), e 1 (by decide), e 2 (by decide), e 3 (by decide)]
  exact h
theorem xGetT {idx ci k b q : Nat} (X : CX p s mm args meth c cc nL own D ca ad A) (hI : IW D ca ad A s m H locs) (hf : FD own idx ci k 2) (hl : ly ca b = (0, ci)) (hq : rfi m ci b k = q) (hdg : decode cc pc = .ok (.getfield idx, 3))
    (kk : W p l e R s mm args below meth c H locs cells slots Q (F0 mm (pc + 3) ls (.ref (ad q) :: rest))) : W p l e R s mm args below meth c H locs cells slots Q (F0 mm pc ls (.ref (ad b) :: rest)) := by
  obtain ⟨C, T, N, h1, h2, h3, h4, h5, h6⟩ := hf
  obtain ⟨hx, hb, hml, hown, hts, hK, -⟩ := X
  subst hq
  refine va_get (v := .ref (ad (rfi m ci b k))) hx hb hts h5 hown hK hI.1 (b - ca 10) (wl_o hl) h1 k h2 (hts _ h6) (fun _ h9 => h9) ?_ hdg kk
  rw [flds_at (by rw [← h3]; exact h2), fvR h4]
section CALLT
variable {y : MethodName} {bytes : ByteArray} {maxL idx n b ci : Nat} {ret : Option FieldType} {rm : Room} {As : List Value} {m' : Mem} {st0 : List Value}
theorem runVt {Qc : Array Value → State → Outcome → State → Prop} (X : CX p s mm args meth c cc nL own D ca ad A) (hI : IW D ca ad A s m H locs) (hM : Met l y (Cond.code y bytes maxL ret :: BIG) rm (va_Pc (.ref (ad b) :: As) (PW D ca ad m H.size)) Qc 0 0 (WA ca ad H.size)) (hm : MD own idx y (Cond.code y bytes maxL ret) n) (hl : ly ca b = (0, ci)) (hci : (clsL[ci]?).map (fun q => q.1) = some y.cls)
    (hc : rm.cells = 0 ∧ rm.slots = 0) (hR : rm.frames + 1 ≤ R.frames ∧ 8 + (maxL + 11) + rm.locals ≤ R.locals) (hn : As.length = n) (hz : ls.size = nL) (hst : st0 = As.reverse ++ .ref (ad b) :: rest) (hW : (rest.map fun v => v.category).sum ≤ 8) (hdg : decode cc pc = .ok (.invokevirtual idx, 3)) (hf : cells + 0 ≤ R.cells ∧ slots + 0 ≤ R.slots) :
    va_Run p l e R s mm args below meth c H locs cells slots 0 0 (F0 mm pc ls st0) rest (Qc (Value.ref (ad b) :: As).toArray) (WA ca ad H.size) := by
  obtain ⟨h1, h2, h3, h4, h5, h6⟩ := hm
  have hts := X.2.2.2.2.1
  cases hq : clsL[ci]? with
  | none => rw [hq] at hci; cases hci
  | some q =>
    have hcl : q.1 = y.cls := by rw [hq] at hci; exact Option.some.inj hci
    refine va_runV (Ts := BIG) (C := y.cls) ⟨X.1, X.2.1, X.2.2.1, X.2.2.2.1, hts⟩ hM ⟨cb_of X h1 h4 h5 h6 hc hR, hts _ h2, hts _ h3⟩ ⟨pw_blind, ?_, pw_at X hI⟩ rfl hn hz hst (lv_room hW) hdg hf
    rw [← hcl]
    exact va_recv X.2.2.2.2.2.1 hI.1 hq (wl_o hl)
theorem backVt {a : Array Value} (X : CX p s mm args meth c cc nL own D ca ad A) (hI : IW D ca ad A s m H locs) (hr : va_Run p l e R s mm args below meth c H locs cells slots 0 0 (F0 mm pc ls st0) rest (QV D ca ad H.size m' a) (WA ca ad H.size))
    (kk : ∀ H1 locs1, IW D ca ad A s m' H1 locs1 → W p l e R s mm args below meth c H1 locs1 cells slots Q (F0 mm (pc + 3) ls rest)) : W p l e R s mm args below meth c H locs cells slots Q (F0 mm pc ls st0) := by
  refine va_callv hr hI.2 (fun q _ h => wa_A X hI.2 q h) (wa_A X hI.2) (fun u t H1 locs1 ht hvm hw hB hz1 hk1 hS => ?_)
  subst hw
  exact kk H1 locs1 ⟨by rw [← ht]; exact hB.1, hS⟩
end CALLT
end TOP

