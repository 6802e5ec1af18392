abbrev cwX0_init : Cond := .code yX0_init cX0_init 1 none
theorem cmX0_init : cwX0_init ∈ BIG := (tb2 (List.mem_of_getElem? (i := 47) rfl) rfl)
theorem pdX0_init : yX0_init.cls ≠ "java/lang/invoke/MethodHandle" ∧ yX0_init.cls ≠ "java/lang/invoke/VarHandle" ∧ (parseMethodDescriptor yX0_init.desc).map (fun d => d.parameters.length) = some 0 := by decide +kernel
theorem moX0_3 : Cond.methodLink RX0 3 Lib.objectInit ∈ BIG := (tb2 (List.mem_of_getElem? (i := 48) rfl) rfl)
theorem ffX0_9 : FPF RX0 9 0 0 2 (.array .int) := ⟨RX0, TX0, 12, tyX0, rfl, by decide, rfl, rfl, inBX0, lkX0_9, tyX0_ok, nmX0, rfl, rfl, rfl⟩
theorem ffX0_15 : FPF RX0 15 0 1 2 (.array .int) := ⟨RX0, TX0, 12, tyX0, rfl, by decide, rfl, rfl, inBX0, lkX0_15, tyX0_ok, nmX0, rfl, rfl, rfl⟩
theorem ffX0_18 : FPF RX0 18 0 2 2 (.array .int) := ⟨RX0, TX0, 12, tyX0, rfl, by decide, rfl, rfl, inBX0, lkX0_18, tyX0_ok, nmX0, rfl, rfl, rfl⟩
theorem ffX0_21 : FPF RX0 21 0 3 2 (.array .int) := ⟨RX0, TX0, 12, tyX0, rfl, by decide, rfl, rfl, inBX0, lkX0_21, tyX0_ok, nmX0, rfl, rfl, rfl⟩
theorem ffX0_24 : FPF RX0 24 0 4 2 (.array .int) := ⟨RX0, TX0, 12, tyX0, rfl, by decide, rfl, rfl, inBX0, lkX0_24, tyX0_ok, nmX0, rfl, rfl, rfl⟩
theorem ffX0_27 : FPF RX0 27 0 5 2 (.array .int) := ⟨RX0, TX0, 12, tyX0, rfl, by decide, rfl, rfl, inBX0, lkX0_27, tyX0_ok, nmX0, rfl, rfl, rfl⟩
theorem ffX0_30 : FPF RX0 30 0 6 2 (.array .int) := ⟨RX0, TX0, 12, tyX0, rfl, by decide, rfl, rfl, inBX0, lkX0_30, tyX0_ok, nmX0, rfl, rfl, rfl⟩
theorem ffX0_33 : FPF RX0 33 0 7 2 (.array .int) := ⟨RX0, TX0, 12, tyX0, rfl, by decide, rfl, rfl, inBX0, lkX0_33, tyX0_ok, nmX0, rfl, rfl, rfl⟩
theorem ffX0_36 : FPF RX0 36 0 8 2 (.array .int) := ⟨RX0, TX0, 12, tyX0, rfl, by decide, rfl, rfl, inBX0, lkX0_36, tyX0_ok, nmX0, rfl, rfl, rfl⟩
abbrev nlX0_init (ca : Nat → Nat)  (a : Nat → Nat) : va_W := [((a 0), .inr (0, [.ref (a 1), .ref (a 2), .ref (a 3), .ref (a 4), .ref (a 5), .ref (a 6), .ref (a 7), .ref (a 8), .ref (a 9), .int 0, .int 0, .long 0])), ((a 1), .inl (ca 0, 6, .inl (fun _ => 0))), ((a 2), .inl (ca 0, 6, .inl (fun _ => 0))), ((a 3), .inl (ca 0, 6, .inl (fun _ => 0))), ((a 4), .inl (ca 0, 6, .inl (fun _ => 0))), ((a 5), .inl (ca 0, 6, .inl (fun _ => 0))), ((a 6), .inl (ca 0, 6, .inl (fun _ => 0))), ((a 7), .inl (ca 0, 6, .inl (fun _ => 0))), ((a 8), .inl (ca 0, 6, .inl (fun _ => 0))), ((a 9), .inl (ca 0, 6, .inl (fun _ => 0)))]
abbrev rmcX0_init : Room := { frames := 1, cells := 9, slots := 54, locals := 20 }
set_option maxHeartbeats 4000000 in
set_option maxRecDepth 100000 in
theorem ccX0_init {l : Launch} {D : va_G} {ca : Nat → ClassId} (h0 : Nat)  : CC l D ca yX0_init cwX0_init rmcX0_init [.ref h0] [(h0, .inr (0, [.null, .null, .null, .null, .null, .null, .null, .null, .null, .int 0, .int 0, .long 0]))] h0 (nlX0_init ca ) 9 54 := by
  refine startC (by decide) rfl (Nat.le_of_ble_eq_true rfl) ?_
  intro p e s mm args below meth c ls X hin hr hP hD hS hl
  have X : CXc p s mm args meth c cX0_init 1 RX0 D ca (va_A [(h0, .inr (0, [.null, .null, .null, .null, .null, .null, .null, .null, .null, .int 0, .int 0, .long 0]))] s.heap.size) := X
  have hx := X.1
  have hb := X.2.1
  have hl : lv_has ls 1 [(0, .ref h0)] := hl
  refine lv_aload_n hx hb dX0_init_0 rfl (lv_at hl 0 rfl) ?_
  refine xObj X moX0_3 hl.1 dX0_init_1 (Nat.le_of_ble_eq_true rfl) (Nat.le_of_ble_eq_true rfl) ?_
  refine lv_aload_n hx hb dX0_init_4 rfl (lv_at hl 0 rfl) ?_
  refine lv_bipush (v := (6 : Int32)) hx hb dX0_init_5 (by decide) ?_
  refine xNewI (N' := 6) X hP hD hS (by decide) (by decide) (Nat.le_of_ble_eq_true rfl) (Nat.le_of_ble_eq_true rfl) (Nat.le_of_ble_eq_true rfl) dX0_init_7 (fun q1 H hP hD hS => ?_)
  have hP : va_P D clsL [(h0, .inr (0, [.null, .null, .null, .null, .null, .null, .null, .null, .null, .int 0, .int 0, .long 0])), (q1, .inl (ca 0, 6, .inl (fun _ => 0)))] H := hP
  have hD : va_D (va_A [(h0, .inr (0, [.null, .null, .null, .null, .null, .null, .null, .null, .null, .int 0, .int 0, .long 0]))] s.heap.size) [(h0, .inr (0, [.null, .null, .null, .null, .null, .null, .null, .null, .null, .int 0, .int 0, .long 0])), (q1, .inl (ca 0, 6, .inl (fun _ => 0)))] := hD
  refine W.widen (k := 1) (n := 6) (Nat.le_of_ble_eq_true rfl) (Nat.le_of_ble_eq_true rfl) ?_
  refine xPutF X hin hP hD hS ffX0_9 0 rfl rfl rfl (Nat.le_of_ble_eq_true rfl) dX0_init_9 (fun H locs hP hD hS => ?_)
  have hP : va_P D clsL [(h0, .inr (0, [.ref q1, .null, .null, .null, .null, .null, .null, .null, .null, .int 0, .int 0, .long 0])), (q1, .inl (ca 0, 6, .inl (fun _ => 0)))] H := hP
  have hD : va_D (va_A [(h0, .inr (0, [.null, .null, .null, .null, .null, .null, .null, .null, .null, .int 0, .int 0, .long 0]))] s.heap.size) [(h0, .inr (0, [.ref q1, .null, .null, .null, .null, .null, .null, .null, .null, .int 0, .int 0, .long 0])), (q1, .inl (ca 0, 6, .inl (fun _ => 0)))] := hD
  refine lv_aload_n hx hb dX0_init_12 rfl (lv_at hl 0 rfl) ?_
  refine lv_bipush (v := (6 : Int32)) hx hb dX0_init_13 (by decide) ?_
  refine xNewI (N' := 6) X hP hD hS (by decide) (by decide) (Nat.le_of_ble_eq_true rfl) (Nat.le_of_ble_eq_true rfl) (Nat.le_of_ble_eq_true rfl) dX0_init_15 (fun q2 H hP hD hS => ?_)
  have hP : va_P D clsL [(h0, .inr (0, [.ref q1, .null, .null, .null, .null, .null, .null, .null, .null, .int 0, .int 0, .long 0])), (q1, .inl (ca 0, 6, .inl (fun _ => 0))), (q2, .inl (ca 0, 6, .inl (fun _ => 0)))] H := hP
  have hD : va_D (va_A [(h0, .inr (0, [.null, .null, .null, .null, .null, .null, .null, .null, .null, .int 0, .int 0, .long 0]))] s.heap.size) [(h0, .inr (0, [.ref q1, .null, .null, .null, .null, .null, .null, .null, .null, .int 0, .int 0, .long 0])), (q1, .inl (ca 0, 6, .inl (fun _ => 0))), (q2, .inl (ca 0, 6, .inl (fun _ => 0)))] := hD
  refine W.widen (k := 2) (n := 12) (Nat.le_of_ble_eq_true rfl) (Nat.le_of_ble_eq_true rfl) ?_
  refine xPutF X hin hP hD hS ffX0_15 0 rfl rfl rfl (Nat.le_of_ble_eq_true rfl) dX0_init_17 (fun H locs hP hD hS => ?_)
  have hP : va_P D clsL [(h0, .inr (0, [.ref q1, .ref q2, .null, .null, .null, .null, .null, .null, .null, .int 0, .int 0, .long 0])), (q1, .inl (ca 0, 6, .inl (fun _ => 0))), (q2, .inl (ca 0, 6, .inl (fun _ => 0)))] H := hP
  have hD : va_D (va_A [(h0, .inr (0, [.null, .null, .null, .null, .null, .null, .null, .null, .null, .int 0, .int 0, .long 0]))] s.heap.size) [(h0, .inr (0, [.ref q1, .ref q2, .null, .null, .null, .null, .null, .null, .null, .int 0, .int 0, .long 0])), (q1, .inl (ca 0, 6, .inl (fun _ => 0))), (q2, .inl (ca 0, 6, .inl (fun _ => 0)))] := hD
  refine lv_aload_n hx hb dX0_init_20 rfl (lv_at hl 0 rfl) ?_
  refine lv_bipush (v := (6 : Int32)) hx hb dX0_init_21 (by decide) ?_
  refine xNewI (N' := 6) X hP hD hS (by decide) (by decide) (Nat.le_of_ble_eq_true rfl) (Nat.le_of_ble_eq_true rfl) (Nat.le_of_ble_eq_true rfl) dX0_init_23 (fun q3 H hP hD hS => ?_)
  have hP : va_P D clsL [(h0, .inr (0, [.ref q1, .ref q2, .null, .null, .null, .null, .null, .null, .null, .int 0, .int 0, .long 0])), (q1, .inl (ca 0, 6, .inl (fun _ => 0))), (q2, .inl (ca 0, 6, .inl (fun _ => 0))), (q3, .inl (ca 0, 6, .inl (fun _ => 0)))] H := hP
  have hD : va_D (va_A [(h0, .inr (0, [.null, .null, .null, .null, .null, .null, .null, .null, .null, .int 0, .int 0, .long 0]))] s.heap.size) [(h0, .inr (0, [.ref q1, .ref q2, .null, .null, .null, .null, .null, .null, .null, .int 0, .int 0, .long 0])), (q1, .inl (ca 0, 6, .inl (fun _ => 0))), (q2, .inl (ca 0, 6, .inl (fun _ => 0))), (q3, .inl (ca 0, 6, .inl (fun _ => 0)))] := hD
  refine W.widen (k := 3) (n := 18) (Nat.le_of_ble_eq_true rfl) (Nat.le_of_ble_eq_true rfl) ?_
  refine xPutF X hin hP hD hS ffX0_18 0 rfl rfl rfl (Nat.le_of_ble_eq_true rfl) dX0_init_25 (fun H locs hP hD hS => ?_)
  have hP : va_P D clsL [(h0, .inr (0, [.ref q1, .ref q2, .ref q3, .null, .null, .null, .null, .null, .null, .int 0, .int 0, .long 0])), (q1, .inl (ca 0, 6, .inl (fun _ => 0))), (q2, .inl (ca 0, 6, .inl (fun _ => 0))), (q3, .inl (ca 0, 6, .inl (fun _ => 0)))] H := hP
  have hD : va_D (va_A [(h0, .inr (0, [.null, .null, .null, .null, .null, .null, .null, .null, .null, .int 0, .int 0, .long 0]))] s.heap.size) [(h0, .inr (0, [.ref q1, .ref q2, .ref q3, .null, .null, .null, .null, .null, .null, .int 0, .int 0, .long 0])), (q1, .inl (ca 0, 6, .inl (fun _ => 0))), (q2, .inl (ca 0, 6, .inl (fun _ => 0))), (q3, .inl (ca 0, 6, .inl (fun _ => 0)))] := hD
  refine lv_aload_n hx hb dX0_init_28 rfl (lv_at hl 0 rfl) ?_
  refine lv_bipush (v := (6 : Int32)) hx hb dX0_init_29 (by decide) ?_
  refine xNewI (N' := 6) X hP hD hS (by decide) (by decide) (Nat.le_of_ble_eq_true rfl) (Nat.le_of_ble_eq_true rfl) (Nat.le_of_ble_eq_true rfl) dX0_init_31 (fun q4 H hP hD hS => ?_)
  have hP : va_P D clsL [(h0, .inr (0, [.ref q1, .ref q2, .ref q3, .null, .null, .null, .null, .null, .null, .int 0, .int 0, .long 0])), (q1, .inl (ca 0, 6, .inl (fun _ => 0))), (q2, .inl (ca 0, 6, .inl (fun _ => 0))), (q3, .inl (ca 0, 6, .inl (fun _ => 0))), (q4, .inl (ca 0, 6, .inl (fun _ => 0)))] H := hP
  have hD : va_D (va_A [(h0, .inr (0, [.null, .null, .null, .null, .null, .null, .null, .null, .null, .int 0, .int 0, .long 0]))] s.heap.size) [(h0, .inr (0, [.ref q1, .ref q2, .ref q3, .null, .null, .null, .null, .null, .null, .int 0, .int 0, .long 0])), (q1, .inl (ca 0, 6, .inl (fun _ => 0))), (q2, .inl (ca 0, 6, .inl (fun _ => 0))), (q3, .inl (ca 0, 6, .inl (fun _ => 0))), (q4, .inl (ca 0, 6, .inl (fun _ => 0)))] := hD
  refine W.widen (k := 4) (n := 24) (Nat.le_of_ble_eq_true rfl) (Nat.le_of_ble_eq_true rfl) ?_
  refine xPutF X hin hP hD hS ffX0_21 0 rfl rfl rfl (Nat.le_of_ble_eq_true rfl) dX0_init_33 (fun H locs hP hD hS => ?_)
  have hP : va_P D clsL [(h0, .inr (0, [.ref q1, .ref q2, .ref q3, .ref q4, .null, .null, .null, .null, .null, .int 0, .int 0, .long 0])), (q1, .inl (ca 0, 6, .inl (fun _ => 0))), (q2, .inl (ca 0, 6, .inl (fun _ => 0))), (q3, .inl (ca 0, 6, .inl (fun _ => 0))), (q4, .inl (ca 0, 6, .inl (fun _ => 0)))] H := hP
  have hD : va_D (va_A [(h0, .inr (0, [.null, .null, .null, .null, .null, .null, .null, .null, .null, .int 0, .int 0, .long 0]))] s.heap.size) [(h0, .inr (0, [.ref q1, .ref q2, .ref q3, .ref q4, .null, .null, .null, .null, .null, .int 0, .int 0, .long 0])), (q1, .inl (ca 0, 6, .inl (fun _ => 0))), (q2, .inl (ca 0, 6, .inl (fun _ => 0))), (q3, .inl (ca 0, 6, .inl (fun _ => 0))), (q4, .inl (ca 0, 6, .inl (fun _ => 0)))] := hD
  refine lv_aload_n hx hb dX0_init_36 rfl (lv_at hl 0 rfl) ?_
  refine lv_bipush (v := (6 : Int32)) hx hb dX0_init_37 (by decide) ?_
  refine xNewI (N' := 6) X hP hD hS (by decide) (by decide) (Nat.le_of_ble_eq_true rfl) (Nat.le_of_ble_eq_true rfl) (Nat.le_of_ble_eq_true rfl) dX0_init_39 (fun q5 H hP hD hS => ?_)
  have hP : va_P D clsL [(h0, .inr (0, [.ref q1, .ref q2, .ref q3, .ref q4, .null, .null, .null, .null, .null, .int 0, .int 0, .long 0])), (q1, .inl (ca 0, 6, .inl (fun _ => 0))), (q2, .inl (ca 0, 6, .inl (fun _ => 0))), (q3, .inl (ca 0, 6, .inl (fun _ => 0))), (q4, .inl (ca 0, 6, .inl (fun _ => 0))), (q5, .inl (ca 0, 6, .inl (fun _ => 0)))] H := hP
  have hD : va_D (va_A [(h0, .inr (0, [.null, .null, .null, .null, .null, .null, .null, .null, .null, .int 0, .int 0, .long 0]))] s.heap.size) [(h0, .inr (0, [.ref q1, .ref q2, .ref q3, .ref q4, .null, .null, .null, .null, .null, .int 0, .int 0, .long 0])), (q1, .inl (ca 0, 6, .inl (fun _ => 0))), (q2, .inl (ca 0, 6, .inl (fun _ => 0))), (q3, .inl (ca 0, 6, .inl (fun _ => 0))), (q4, .inl (ca 0, 6, .inl (fun _ => 0))), (q5, .inl (ca 0, 6, .inl (fun _ => 0)))] := hD
  refine W.widen (k := 5) (n := 30) (Nat.le_of_ble_eq_true rfl) (Nat.le_of_ble_eq_true rfl) ?_
  refine xPutF X hin hP hD hS ffX0_24 0 rfl rfl rfl (Nat.le_of_ble_eq_true rfl) dX0_init_41 (fun H locs hP hD hS => ?_)
  have hP : va_P D clsL [(h0, .inr (0, [.ref q1, .ref q2, .ref q3, .ref q4, .ref q5, .null, .null, .null, .null, .int 0, .int 0, .long 0])), (q1, .inl (ca 0, 6, .inl (fun _ => 0))), (q2, .inl (ca 0, 6, .inl (fun _ => 0))), (q3, .inl (ca 0, 6, .inl (fun _ => 0))), (q4, .inl (ca 0, 6, .inl (fun _ => 0))), (q5, .inl (ca 0, 6, .inl (fun _ => 0)))] H := hP
  have hD : va_D (va_A [(h0, .inr (0, [.null, .null, .null, .null, .null, .null, .null, .null, .null, .int 0, .int 0, .long 0]))] s.heap.size) [(h0, .inr (0, [.ref q1, .ref q2, .ref q3, .ref q4, .ref q5, .null, .null, .null, .null, .int 0, .int 0, .long 0])), (q1, .inl (ca 0, 6, .inl (fun _ => 0))), (q2, .inl (ca 0, 6, .inl (fun _ => 0))), (q3, .inl (ca 0, 6, .inl (fun _ => 0))), (q4, .inl (ca 0, 6, .inl (fun _ => 0))), (q5, .inl (ca 0, 6, .inl (fun _ => 0)))] := hD
  refine lv_aload_n hx hb dX0_init_44 rfl (lv_at hl 0 rfl) ?_
  refine lv_bipush (v := (6 : Int32)) hx hb dX0_init_45 (by decide) ?_
  refine xNewI (N' := 6) X hP hD hS (by decide) (by decide) (Nat.le_of_ble_eq_true rfl) (Nat.le_of_ble_eq_true rfl) (Nat.le_of_ble_eq_true rfl) dX0_init_47 (fun q6 H hP hD hS => ?_)
  have hP : va_P D clsL [(h0, .inr (0, [.ref q1, .ref q2, .ref q3, .ref q4, .ref q5, .null, .null, .null, .null, .int 0, .int 0, .long 0])), (q1, .inl (ca 0, 6, .inl (fun _ => 0))), (q2, .inl (ca 0, 6, .inl (fun _ => 0))), (q3, .inl (ca 0, 6, .inl (fun _ => 0))), (q4, .inl (ca 0, 6, .inl (fun _ => 0))), (q5, .inl (ca 0, 6, .inl (fun _ => 0))), (q6, .inl (ca 0, 6, .inl (fun _ => 0)))] H := hP
  have hD : va_D (va_A [(h0, .inr (0, [.null, .null, .null, .null, .null, .null, .null, .null, .null, .int 0, .int 0, .long 0]))] s.heap.size) [(h0, .inr (0, [.ref q1, .ref q2, .ref q3, .ref q4, .ref q5, .null, .null, .null, .null, .int 0, .int 0, .long 0])), (q1, .inl (ca 0, 6, .inl (fun _ => 0))), (q2, .inl (ca 0, 6, .inl (fun _ => 0))), (q3, .inl (ca 0, 6, .inl (fun _ => 0))), (q4, .inl (ca 0, 6, .inl (fun _ => 0))), (q5, .inl (ca 0, 6, .inl (fun _ => 0))), (q6, .inl (ca 0, 6, .inl (fun _ => 0)))] := hD
  refine W.widen (k := 6) (n := 36) (Nat.le_of_ble_eq_true rfl) (Nat.le_of_ble_eq_true rfl) ?_
  refine xPutF X hin hP hD hS ffX0_27 0 rfl rfl rfl (Nat.le_of_ble_eq_true rfl) dX0_init_49 (fun H locs hP hD hS => ?_)
  have hP : va_P D clsL [(h0, .inr (0, [.ref q1, .ref q2, .ref q3, .ref q4, .ref q5, .ref q6, .null, .null, .null, .int 0, .int 0, .long 0])), (q1, .inl (ca 0, 6, .inl (fun _ => 0))), (q2, .inl (ca 0, 6, .inl (fun _ => 0))), (q3, .inl (ca 0, 6, .inl (fun _ => 0))), (q4, .inl (ca 0, 6, .inl (fun _ => 0))), (q5, .inl (ca 0, 6, .inl (fun _ => 0))), (q6, .inl (ca 0, 6, .inl (fun _ => 0)))] H := hP
  have hD : va_D (va_A [(h0, .inr (0, [.null, .null, .null, .null, .null, .null, .null, .null, .null, .int 0, .int 0, .long 0]))] s.heap.size) [(h0, .inr (0, [.ref q1, .ref q2, .ref q3, .ref q4, .ref q5, .ref q6, .null, .null, .null, .int 0, .int 0, .long 0])), (q1, .inl (ca 0, 6, .inl (fun _ => 0))), (q2, .inl (ca 0, 6, .inl (fun _ => 0))), (q3, .inl (ca 0, 6, .inl (fun _ => 0))), (q4, .inl (ca 0, 6, .inl (fun _ => 0))), (q5, .inl (ca 0, 6, .inl (fun _ => 0))), (q6, .inl (ca 0, 6, .inl (fun _ => 0)))] := hD
  refine lv_aload_n hx hb dX0_init_52 rfl (lv_at hl 0 rfl) ?_
  refine lv_bipush (v := (6 : Int32)) hx hb dX0_init_53 (by decide) ?_
  refine xNewI (N' := 6) X hP hD hS (by decide) (by decide) (Nat.le_of_ble_eq_true rfl) (Nat.le_of_ble_eq_true rfl) (Nat.le_of_ble_eq_true rfl) dX0_init_55 (fun q7 H hP hD hS => ?_)
  have hP : va_P D clsL [(h0, .inr (0, [.ref q1, .ref q2, .ref q3, .ref q4, .ref q5, .ref q6, .null, .null, .null, .int 0, .int 0, .long 0])), (q1, .inl (ca 0, 6, .inl (fun _ => 0))), (q2, .inl (ca 0, 6, .inl (fun _ => 0))), (q3, .inl (ca 0, 6, .inl (fun _ => 0))), (q4, .inl (ca 0, 6, .inl (fun _ => 0))), (q5, .inl (ca 0, 6, .inl (fun _ => 0))), (q6, .inl (ca 0, 6, .inl (fun _ => 0))), (q7, .inl (ca 0, 6, .inl (fun _ => 0)))] H := hP
  have hD : va_D (va_A [(h0, .inr (0, [.null, .null, .null, .null, .null, .null, .null, .null, .null, .int 0, .int 0, .long 0]))] s.heap.size) [(h0, .inr (0, [.ref q1, .ref q2, .ref q3, .ref q4, .ref q5, .ref q6, .null, .null, .null, .int 0, .int 0, .long 0])), (q1, .inl (ca 0, 6, .inl (fun _ => 0))), (q2, .inl (ca 0, 6, .inl (fun _ => 0))), (q3, .inl (ca 0, 6, .inl (fun _ => 0))), (q4, .inl (ca 0, 6, .inl (fun _ => 0))), (q5, .inl (ca 0, 6, .inl (fun _ => 0))), (q6, .inl (ca 0, 6, .inl (fun _ => 0))), (q7, .inl (ca 0, 6, .inl (fun _ => 0)))] := hD
  refine W.widen (k := 7) (n := 42) (Nat.le_of_ble_eq_true rfl) (Nat.le_of_ble_eq_true rfl) ?_
  refine xPutF X hin hP hD hS ffX0_30 0 rfl rfl rfl (Nat.le_of_ble_eq_true rfl) dX0_init_57 (fun H locs hP hD hS => ?_)
  have hP : va_P D clsL [(h0, .inr (0, [.ref q1, .ref q2, .ref q3, .ref q4, .ref q5, .ref q6, .ref q7, .null, .null, .int 0, .int 0, .long 0])), (q1, .inl (ca 0, 6, .inl (fun _ => 0))), (q2, .inl (ca 0, 6, .inl (fun _ => 0))), (q3, .inl (ca 0, 6, .inl (fun _ => 0))), (q4, .inl (ca 0, 6, .inl (fun _ => 0))), (q5, .inl (ca 0, 6, .inl (fun _ => 0))), (q6, .inl (ca 0, 6, .inl (fun _ => 0))), (q7, .inl (ca 0, 6, .inl (fun _ => 0)))] H := hP
  have hD : va_D (va_A [(h0, .inr (0, [.null, .null, .null, .null, .null, .null, .null, .null, .null, .int 0, .int 0, .long 0]))] s.heap.size) [(h0, .inr (0, [.ref q1, .ref q2, .ref q3, .ref q4, .ref q5, .ref q6, .ref q7, .null, .null, .int 0, .int 0, .long 0])), (q1, .inl (ca 0, 6, .inl (fun _ => 0))), (q2, .inl (ca 0, 6, .inl (fun _ => 0))), (q3, .inl (ca 0, 6, .inl (fun _ => 0))), (q4, .inl (ca 0, 6, .inl (fun _ => 0))), (q5, .inl (ca 0, 6, .inl (fun _ => 0))), (q6, .inl (ca 0, 6, .inl (fun _ => 0))), (q7, .inl (ca 0, 6, .inl (fun _ => 0)))] := hD
  refine lv_aload_n hx hb dX0_init_60 rfl (lv_at hl 0 rfl) ?_
  refine lv_bipush (v := (6 : Int32)) hx hb dX0_init_61 (by decide) ?_
  refine xNewI (N' := 6) X hP hD hS (by decide) (by decide) (Nat.le_of_ble_eq_true rfl) (Nat.le_of_ble_eq_true rfl) (Nat.le_of_ble_eq_true rfl) dX0_init_63 (fun q8 H hP hD hS => ?_)
  have hP : va_P D clsL [(h0, .inr (0, [.ref q1, .ref q2, .ref q3, .ref q4, .ref q5, .ref q6, .ref q7, .null, .null, .int 0, .int 0, .long 0])), (q1, .inl (ca 0, 6, .inl (fun _ => 0))), (q2, .inl (ca 0, 6, .inl (fun _ => 0))), (q3, .inl (ca 0, 6, .inl (fun _ => 0))), (q4, .inl (ca 0, 6, .inl (fun _ => 0))), (q5, .inl (ca 0, 6, .inl (fun _ => 0))), (q6, .inl (ca 0, 6, .inl (fun _ => 0))), (q7, .inl (ca 0, 6, .inl (fun _ => 0))), (q8, .inl (ca 0, 6, .inl (fun _ => 0)))] H := hP
  have hD : va_D (va_A [(h0, .inr (0, [.null, .null, .null, .null, .null, .null, .null, .null, .null, .int 0, .int 0, .long 0]))] s.heap.size) [(h0, .inr (0, [.ref q1, .ref q2, .ref q3, .ref q4, .ref q5, .ref q6, .ref q7, .null, .null, .int 0, .int 0, .long 0])), (q1, .inl (ca 0, 6, .inl (fun _ => 0))), (q2, .inl (ca 0, 6, .inl (fun _ => 0))), (q3, .inl (ca 0, 6, .inl (fun _ => 0))), (q4, .inl (ca 0, 6, .inl (fun _ => 0))), (q5, .inl (ca 0, 6, .inl (fun _ => 0))), (q6, .inl (ca 0, 6, .inl (fun _ => 0))), (q7, .inl (ca 0, 6, .inl (fun _ => 0))), (q8, .inl (ca 0, 6, .inl (fun _ => 0)))] := hD
  refine W.widen (k := 8) (n := 48) (Nat.le_of_ble_eq_true rfl) (Nat.le_of_ble_eq_true rfl) ?_
  refine xPutF X hin hP hD hS ffX0_33 0 rfl rfl rfl (Nat.le_of_ble_eq_true rfl) dX0_init_65 (fun H locs hP hD hS => ?_)
  have hP : va_P D clsL [(h0, .inr (0, [.ref q1, .ref q2, .ref q3, .ref q4, .ref q5, .ref q6, .ref q7, .ref q8, .null, .int 0, .int 0, .long 0])), (q1, .inl (ca 0, 6, .inl (fun _ => 0))), (q2, .inl (ca 0, 6, .inl (fun _ => 0))), (q3, .inl (ca 0, 6, .inl (fun _ => 0))), (q4, .inl (ca 0, 6, .inl (fun _ => 0))), (q5, .inl (ca 0, 6, .inl (fun _ => 0))), (q6, .inl (ca 0, 6, .inl (fun _ => 0))), (q7, .inl (ca 0, 6, .inl (fun _ => 0))), (q8, .inl (ca 0, 6, .inl (fun _ => 0)))] H := hP
  have hD : va_D (va_A [(h0, .inr (0, [.null, .null, .null, .null, .null, .null, .null, .null, .null, .int 0, .int 0, .long 0]))] s.heap.size) [(h0, .inr (0, [.ref q1, .ref q2, .ref q3, .ref q4, .ref q5, .ref q6, .ref q7, .ref q8, .null, .int 0, .int 0, .long 0])), (q1, .inl (ca 0, 6, .inl (fun _ => 0))), (q2, .inl (ca 0, 6, .inl (fun _ => 0))), (q3, .inl (ca 0, 6, .inl (fun _ => 0))), (q4, .inl (ca 0, 6, .inl (fun _ => 0))), (q5, .inl (ca 0, 6, .inl (fun _ => 0))), (q6, .inl (ca 0, 6, .inl (fun _ => 0))), (q7, .inl (ca 0, 6, .inl (fun _ => 0))), (q8, .inl (ca 0, 6, .inl (fun _ => 0)))] := hD
  refine lv_aload_n hx hb dX0_init_68 rfl (lv_at hl 0 rfl) ?_
  refine lv_bipush (v := (6 : Int32)) hx hb dX0_init_69 (by decide) ?_
  refine xNewI (N' := 6) X hP hD hS (by decide) (by decide) (Nat.le_of_ble_eq_true rfl) (Nat.le_of_ble_eq_true rfl) (Nat.le_of_ble_eq_true rfl) dX0_init_71 (fun q9 H hP hD hS => ?_)
  have hP : va_P D clsL [(h0, .inr (0, [.ref q1, .ref q2, .ref q3, .ref q4, .ref q5, .ref q6, .ref q7, .ref q8, .null, .int 0, .int 0, .long 0])), (q1, .inl (ca 0, 6, .inl (fun _ => 0))), (q2, .inl (ca 0, 6, .inl (fun _ => 0))), (q3, .inl (ca 0, 6, .inl (fun _ => 0))), (q4, .inl (ca 0, 6, .inl (fun _ => 0))), (q5, .inl (ca 0, 6, .inl (fun _ => 0))), (q6, .inl (ca 0, 6, .inl (fun _ => 0))), (q7, .inl (ca 0, 6, .inl (fun _ => 0))), (q8, .inl (ca 0, 6, .inl (fun _ => 0))), (q9, .inl (ca 0, 6, .inl (fun _ => 0)))] H := hP
  have hD : va_D (va_A [(h0, .inr (0, [.null, .null, .null, .null, .null, .null, .null, .null, .null, .int 0, .int 0, .long 0]))] s.heap.size) [(h0, .inr (0, [.ref q1, .ref q2, .ref q3, .ref q4, .ref q5, .ref q6, .ref q7, .ref q8, .null, .int 0, .int 0, .long 0])), (q1, .inl (ca 0, 6, .inl (fun _ => 0))), (q2, .inl (ca 0, 6, .inl (fun _ => 0))), (q3, .inl (ca 0, 6, .inl (fun _ => 0))), (q4, .inl (ca 0, 6, .inl (fun _ => 0))), (q5, .inl (ca 0, 6, .inl (fun _ => 0))), (q6, .inl (ca 0, 6, .inl (fun _ => 0))), (q7, .inl (ca 0, 6, .inl (fun _ => 0))), (q8, .inl (ca 0, 6, .inl (fun _ => 0))), (q9, .inl (ca 0, 6, .inl (fun _ => 0)))] := hD
  refine W.widen (k := 9) (n := 54) (Nat.le_of_ble_eq_true rfl) (Nat.le_of_ble_eq_true rfl) ?_
  refine xPutF X hin hP hD hS ffX0_36 0 rfl rfl rfl (Nat.le_of_ble_eq_true rfl) dX0_init_73 (fun H locs hP hD hS => ?_)
  have hP : va_P D clsL [(h0, .inr (0, [.ref q1, .ref q2, .ref q3, .ref q4, .ref q5, .ref q6, .ref q7, .ref q8, .ref q9, .int 0, .int 0, .long 0])), (q1, .inl (ca 0, 6, .inl (fun _ => 0))), (q2, .inl (ca 0, 6, .inl (fun _ => 0))), (q3, .inl (ca 0, 6, .inl (fun _ => 0))), (q4, .inl (ca 0, 6, .inl (fun _ => 0))), (q5, .inl (ca 0, 6, .inl (fun _ => 0))), (q6, .inl (ca 0, 6, .inl (fun _ => 0))), (q7, .inl (ca 0, 6, .inl (fun _ => 0))), (q8, .inl (ca 0, 6, .inl (fun _ => 0))), (q9, .inl (ca 0, 6, .inl (fun _ => 0)))] H := hP
  have hD : va_D (va_A [(h0, .inr (0, [.null, .null, .null, .null, .null, .null, .null, .null, .null, .int 0, .int 0, .long 0]))] s.heap.size) [(h0, .inr (0, [.ref q1, .ref q2, .ref q3, .ref q4, .ref q5, .ref q6, .ref q7, .ref q8, .ref q9, .int 0, .int 0, .long 0])), (q1, .inl (ca 0, 6, .inl (fun _ => 0))), (q2, .inl (ca 0, 6, .inl (fun _ => 0))), (q3, .inl (ca 0, 6, .inl (fun _ => 0))), (q4, .inl (ca 0, 6, .inl (fun _ => 0))), (q5, .inl (ca 0, 6, .inl (fun _ => 0))), (q6, .inl (ca 0, 6, .inl (fun _ => 0))), (q7, .inl (ca 0, 6, .inl (fun _ => 0))), (q8, .inl (ca 0, 6, .inl (fun _ => 0))), (q9, .inl (ca 0, 6, .inl (fun _ => 0)))] := hD
  exact xRet X hr (fun i => [h0, q1, q2, q3, q4, q5, q6, q7, q8, q9].getD i 0) rfl hP hD hS dX0_init_76
abbrev cwX1_init : Cond := .code yX1_init cX1_init 1 none
theorem cmX1_init : cwX1_init ∈ BIG := (tb2 (List.mem_of_getElem? (i := 160) rfl) rfl)
theorem pdX1_init : yX1_init.cls ≠ "java/lang/invoke/MethodHandle" ∧ yX1_init.cls ≠ "java/lang/invoke/VarHandle" ∧ (parseMethodDescriptor yX1_init.desc).map (fun d => d.parameters.length) = some 0 := by decide +kernel
theorem moX1_3 : Cond.methodLink RX1 3 Lib.objectInit ∈ BIG := (tb2 (List.mem_of_getElem? (i := 161) rfl) rfl)
theorem ffX1_9 : FPF RX1 9 1 0 2 (.array .int) := ⟨RX1, TX1, 8, tyX1, rfl, by decide, rfl, rfl, inBX1, lkX1_9, tyX1_ok, nmX1, rfl, rfl, rfl⟩
theorem ffX1_15 : FPF RX1 15 1 1 2 (.array .int) := ⟨RX1, TX1, 8, tyX1, rfl, by decide, rfl, rfl, inBX1, lkX1_15, tyX1_ok, nmX1, rfl, rfl, rfl⟩
theorem ffX1_18 : FPF RX1 18 1 2 2 (.array .int) := ⟨RX1, TX1, 8, tyX1, rfl, by decide, rfl, rfl, inBX1, lkX1_18, tyX1_ok, nmX1, rfl, rfl, rfl⟩
theorem ffX1_21 : FPF RX1 21 1 3 2 (.array .boolean) := ⟨RX1, TX1, 8, tyX1, rfl, by decide, rfl, rfl, inBX1, lkX1_21, tyX1_ok, nmX1, rfl, rfl, rfl⟩
theorem ffX1_25 : FPF RX1 25 1 4 2 (.array .int) := ⟨RX1, TX1, 8, tyX1, rfl, by decide, rfl, rfl, inBX1, lkX1_25, tyX1_ok, nmX1, rfl, rfl, rfl⟩
theorem ffX1_28 : FPF RX1 28 1 5 2 (.array .boolean) := ⟨RX1, TX1, 8, tyX1, rfl, by decide, rfl, rfl, inBX1, lkX1_28, tyX1_ok, nmX1, rfl, rfl, rfl⟩
abbrev nlX1_init (ca : Nat → Nat)  (a : Nat → Nat) : va_W := [((a 0), .inr (1, [.ref (a 1), .ref (a 2), .ref (a 3), .ref (a 4), .ref (a 5), .ref (a 6), .int 0, .int (-1 : Int32)])), ((a 1), .inl (ca 0, 24, .inl (fun _ => 0))), ((a 2), .inl (ca 0, 24, .inl (fun _ => 0))), ((a 3), .inl (ca 0, 24, .inl (fun _ => 0))), ((a 4), .inl (ca 1, 24, .inl (fun _ => 0))), ((a 5), .inl (ca 0, 24, .inl (fun _ => 0))), ((a 6), .inl (ca 1, 24, .inl (fun _ => 0)))]
abbrev rmcX1_init : Room := { frames := 1, cells := 6, slots := 144, locals := 20 }
set_option maxHeartbeats 4000000 in
set_option maxRecDepth 100000 in
theorem ccX1_init {l : Launch} {D : va_G} {ca : Nat → ClassId} (h0 : Nat)  : CC l D ca yX1_init cwX1_init rmcX1_init [.ref h0] [(h0, .inr (1, [.null, .null, .null, .null, .null, .null, .int 0, .int 0]))] h0 (nlX1_init ca ) 6 144 := by
  refine startC (by decide) rfl (Nat.le_of_ble_eq_true rfl) ?_
  intro p e s mm args below meth c ls X hin hr hP hD hS hl
  have X : CXc p s mm args meth c cX1_init 1 RX1 D ca (va_A [(h0, .inr (1, [.null, .null, .null, .null, .null, .null, .int 0, .int 0]))] s.heap.size) := X
  have hx := X.1
  have hb := X.2.1
  have hl : lv_has ls 1 [(0, .ref h0)] := hl
  refine lv_aload_n hx hb dX1_init_0 rfl (lv_at hl 0 rfl) ?_
  refine xObj X moX1_3 hl.1 dX1_init_1 (Nat.le_of_ble_eq_true rfl) (Nat.le_of_ble_eq_true rfl) ?_
  refine lv_aload_n hx hb dX1_init_4 rfl (lv_at hl 0 rfl) ?_
  refine lv_bipush (v := (24 : Int32)) hx hb dX1_init_5 (by decide) ?_
  refine xNewI (N' := 24) X hP hD hS (by decide) (by decide) (Nat.le_of_ble_eq_true rfl) (Nat.le_of_ble_eq_true rfl) (Nat.le_of_ble_eq_true rfl) dX1_init_7 (fun q1 H hP hD hS => ?_)
  have hP : va_P D clsL [(h0, .inr (1, [.null, .null, .null, .null, .null, .null, .int 0, .int 0])), (q1, .inl (ca 0, 24, .inl (fun _ => 0)))] H := hP
  have hD : va_D (va_A [(h0, .inr (1, [.null, .null, .null, .null, .null, .null, .int 0, .int 0]))] s.heap.size) [(h0, .inr (1, [.null, .null, .null, .null, .null, .null, .int 0, .int 0])), (q1, .inl (ca 0, 24, .inl (fun _ => 0)))] := hD
  refine W.widen (k := 1) (n := 24) (Nat.le_of_ble_eq_true rfl) (Nat.le_of_ble_eq_true rfl) ?_
  refine xPutF X hin hP hD hS ffX1_9 0 rfl rfl rfl (Nat.le_of_ble_eq_true rfl) dX1_init_9 (fun H locs hP hD hS => ?_)
  have hP : va_P D clsL [(h0, .inr (1, [.ref q1, .null, .null, .null, .null, .null, .int 0, .int 0])), (q1, .inl (ca 0, 24, .inl (fun _ => 0)))] H := hP
  have hD : va_D (va_A [(h0, .inr (1, [.null, .null, .null, .null, .null, .null, .int 0, .int 0]))] s.heap.size) [(h0, .inr (1, [.ref q1, .null, .null, .null, .null, .null, .int 0, .int 0])), (q1, .inl (ca 0, 24, .inl (fun _ => 0)))] := hD
  refine lv_aload_n hx hb dX1_init_12 rfl (lv_at hl 0 rfl) ?_
  refine lv_bipush (v := (24 : Int32)) hx hb dX1_init_13 (by decide) ?_
  refine xNewI (N' := 24) X hP hD hS (by decide) (by decide) (Nat.le_of_ble_eq_true rfl) (Nat.le_of_ble_eq_true rfl) (Nat.le_of_ble_eq_true rfl) dX1_init_15 (fun q2 H hP hD hS => ?_)
  have hP : va_P D clsL [(h0, .inr (1, [.ref q1, .null, .null, .null, .null, .null, .int 0, .int 0])), (q1, .inl (ca 0, 24, .inl (fun _ => 0))), (q2, .inl (ca 0, 24, .inl (fun _ => 0)))] H := hP
  have hD : va_D (va_A [(h0, .inr (1, [.null, .null, .null, .null, .null, .null, .int 0, .int 0]))] s.heap.size) [(h0, .inr (1, [.ref q1, .null, .null, .null, .null, .null, .int 0, .int 0])), (q1, .inl (ca 0, 24, .inl (fun _ => 0))), (q2, .inl (ca 0, 24, .inl (fun _ => 0)))] := hD
  refine W.widen (k := 2) (n := 48) (Nat.le_of_ble_eq_true rfl) (Nat.le_of_ble_eq_true rfl) ?_
  refine xPutF X hin hP hD hS ffX1_15 0 rfl rfl rfl (Nat.le_of_ble_eq_true rfl) dX1_init_17 (fun H locs hP hD hS => ?_)
  have hP : va_P D clsL [(h0, .inr (1, [.ref q1, .ref q2, .null, .null, .null, .null, .int 0, .int 0])), (q1, .inl (ca 0, 24, .inl (fun _ => 0))), (q2, .inl (ca 0, 24, .inl (fun _ => 0)))] H := hP
  have hD : va_D (va_A [(h0, .inr (1, [.null, .null, .null, .null, .null, .null, .int 0, .int 0]))] s.heap.size) [(h0, .inr (1, [.ref q1, .ref q2, .null, .null, .null, .null, .int 0, .int 0])), (q1, .inl (ca 0, 24, .inl (fun _ => 0))), (q2, .inl (ca 0, 24, .inl (fun _ => 0)))] := hD
  refine lv_aload_n hx hb dX1_init_20 rfl (lv_at hl 0 rfl) ?_
  refine lv_bipush (v := (24 : Int32)) hx hb dX1_init_21 (by decide) ?_
  refine xNewI (N' := 24) X hP hD hS (by decide) (by decide) (Nat.le_of_ble_eq_true rfl) (Nat.le_of_ble_eq_true rfl) (Nat.le_of_ble_eq_true rfl) dX1_init_23 (fun q3 H hP hD hS => ?_)
  have hP : va_P D clsL [(h0, .inr (1, [.ref q1, .ref q2, .null, .null, .null, .null, .int 0, .int 0])), (q1, .inl (ca 0, 24, .inl (fun _ => 0))), (q2, .inl (ca 0, 24, .inl (fun _ => 0))), (q3, .inl (ca 0, 24, .inl (fun _ => 0)))] H := hP
  have hD : va_D (va_A [(h0, .inr (1, [.null, .null, .null, .null, .null, .null, .int 0, .int 0]))] s.heap.size) [(h0, .inr (1, [.ref q1, .ref q2, .null, .null, .null, .null, .int 0, .int 0])), (q1, .inl (ca 0, 24, .inl (fun _ => 0))), (q2, .inl (ca 0, 24, .inl (fun _ => 0))), (q3, .inl (ca 0, 24, .inl (fun _ => 0)))] := hD
  refine W.widen (k := 3) (n := 72) (Nat.le_of_ble_eq_true rfl) (Nat.le_of_ble_eq_true rfl) ?_
  refine xPutF X hin hP hD hS ffX1_18 0 rfl rfl rfl (Nat.le_of_ble_eq_true rfl) dX1_init_25 (fun H locs hP hD hS => ?_)
  have hP : va_P D clsL [(h0, .inr (1, [.ref q1, .ref q2, .ref q3, .null, .null, .null, .int 0, .int 0])), (q1, .inl (ca 0, 24, .inl (fun _ => 0))), (q2, .inl (ca 0, 24, .inl (fun _ => 0))), (q3, .inl (ca 0, 24, .inl (fun _ => 0)))] H := hP
  have hD : va_D (va_A [(h0, .inr (1, [.null, .null, .null, .null, .null, .null, .int 0, .int 0]))] s.heap.size) [(h0, .inr (1, [.ref q1, .ref q2, .ref q3, .null, .null, .null, .int 0, .int 0])), (q1, .inl (ca 0, 24, .inl (fun _ => 0))), (q2, .inl (ca 0, 24, .inl (fun _ => 0))), (q3, .inl (ca 0, 24, .inl (fun _ => 0)))] := hD
  refine lv_aload_n hx hb dX1_init_28 rfl (lv_at hl 0 rfl) ?_
  refine lv_bipush (v := (24 : Int32)) hx hb dX1_init_29 (by decide) ?_
  refine xNewZ (N' := 24) X hP hD hS (by decide) (by decide) (Nat.le_of_ble_eq_true rfl) (Nat.le_of_ble_eq_true rfl) (Nat.le_of_ble_eq_true rfl) dX1_init_31 (fun q4 H hP hD hS => ?_)
  have hP : va_P D clsL [(h0, .inr (1, [.ref q1, .ref q2, .ref q3, .null, .null, .null, .int 0, .int 0])), (q1, .inl (ca 0, 24, .inl (fun _ => 0))), (q2, .inl (ca 0, 24, .inl (fun _ => 0))), (q3, .inl (ca 0, 24, .inl (fun _ => 0))), (q4, .inl (ca 1, 24, .inl (fun _ => 0)))] H := hP
  have hD : va_D (va_A [(h0, .inr (1, [.null, .null, .null, .null, .null, .null, .int 0, .int 0]))] s.heap.size) [(h0, .inr (1, [.ref q1, .ref q2, .ref q3, .null, .null, .null, .int 0, .int 0])), (q1, .inl (ca 0, 24, .inl (fun _ => 0))), (q2, .inl (ca 0, 24, .inl (fun _ => 0))), (q3, .inl (ca 0, 24, .inl (fun _ => 0))), (q4, .inl (ca 1, 24, .inl (fun _ => 0)))] := hD
  refine W.widen (k := 4) (n := 96) (Nat.le_of_ble_eq_true rfl) (Nat.le_of_ble_eq_true rfl) ?_
  refine xPutF X hin hP hD hS ffX1_21 0 rfl rfl rfl (Nat.le_of_ble_eq_true rfl) dX1_init_33 (fun H locs hP hD hS => ?_)
  have hP : va_P D clsL [(h0, .inr (1, [.ref q1, .ref q2, .ref q3, .ref q4, .null, .null, .int 0, .int 0])), (q1, .inl (ca 0, 24, .inl (fun _ => 0))), (q2, .inl (ca 0, 24, .inl (fun _ => 0))), (q3, .inl (ca 0, 24, .inl (fun _ => 0))), (q4, .inl (ca 1, 24, .inl (fun _ => 0)))] H := hP
  have hD : va_D (va_A [(h0, .inr (1, [.null, .null, .null, .null, .null, .null, .int 0, .int 0]))] s.heap.size) [(h0, .inr (1, [.ref q1, .ref q2, .ref q3, .ref q4, .null, .null, .int 0, .int 0])), (q1, .inl (ca 0, 24, .inl (fun _ => 0))), (q2, .inl (ca 0, 24, .inl (fun _ => 0))), (q3, .inl (ca 0, 24, .inl (fun _ => 0))), (q4, .inl (ca 1, 24, .inl (fun _ => 0)))] := hD
  refine lv_aload_n hx hb dX1_init_36 rfl (lv_at hl 0 rfl) ?_
  refine lv_bipush (v := (24 : Int32)) hx hb dX1_init_37 (by decide) ?_
  refine xNewI (N' := 24) X hP hD hS (by decide) (by decide) (Nat.le_of_ble_eq_true rfl) (Nat.le_of_ble_eq_true rfl) (Nat.le_of_ble_eq_true rfl) dX1_init_39 (fun q5 H hP hD hS => ?_)
  have hP : va_P D clsL [(h0, .inr (1, [.ref q1, .ref q2, .ref q3, .ref q4, .null, .null, .int 0, .int 0])), (q1, .inl (ca 0, 24, .inl (fun _ => 0))), (q2, .inl (ca 0, 24, .inl (fun _ => 0))), (q3, .inl (ca 0, 24, .inl (fun _ => 0))), (q4, .inl (ca 1, 24, .inl (fun _ => 0))), (q5, .inl (ca 0, 24, .inl (fun _ => 0)))] H := hP
  have hD : va_D (va_A [(h0, .inr (1, [.null, .null, .null, .null, .null, .null, .int 0, .int 0]))] s.heap.size) [(h0, .inr (1, [.ref q1, .ref q2, .ref q3, .ref q4, .null, .null, .int 0, .int 0])), (q1, .inl (ca 0, 24, .inl (fun _ => 0))), (q2, .inl (ca 0, 24, .inl (fun _ => 0))), (q3, .inl (ca 0, 24, .inl (fun _ => 0))), (q4, .inl (ca 1, 24, .inl (fun _ => 0))), (q5, .inl (ca 0, 24, .inl (fun _ => 0)))] := hD
  refine W.widen (k := 5) (n := 120) (Nat.le_of_ble_eq_true rfl) (Nat.le_of_ble_eq_true rfl) ?_
  refine xPutF X hin hP hD hS ffX1_25 0 rfl rfl rfl (Nat.le_of_ble_eq_true rfl) dX1_init_41 (fun H locs hP hD hS => ?_)
  have hP : va_P D clsL [(h0, .inr (1, [.ref q1, .ref q2, .ref q3, .ref q4, .ref q5, .null, .int 0, .int 0])), (q1, .inl (ca 0, 24, .inl (fun _ => 0))), (q2, .inl (ca 0, 24, .inl (fun _ => 0))), (q3, .inl (ca 0, 24, .inl (fun _ => 0))), (q4, .inl (ca 1, 24, .inl (fun _ => 0))), (q5, .inl (ca 0, 24, .inl (fun _ => 0)))] H := hP
  have hD : va_D (va_A [(h0, .inr (1, [.null, .null, .null, .null, .null, .null, .int 0, .int 0]))] s.heap.size) [(h0, .inr (1, [.ref q1, .ref q2, .ref q3, .ref q4, .ref q5, .null, .int 0, .int 0])), (q1, .inl (ca 0, 24, .inl (fun _ => 0))), (q2, .inl (ca 0, 24, .inl (fun _ => 0))), (q3, .inl (ca 0, 24, .inl (fun _ => 0))), (q4, .inl (ca 1, 24, .inl (fun _ => 0))), (q5, .inl (ca 0, 24, .inl (fun _ => 0)))] := hD
  refine lv_aload_n hx hb dX1_init_44 rfl (lv_at hl 0 rfl) ?_
  refine lv_bipush (v := (24 : Int32)) hx hb dX1_init_45 (by decide) ?_
  refine xNewZ (N' := 24) X hP hD hS (by decide) (by decide) (Nat.le_of_ble_eq_true rfl) (Nat.le_of_ble_eq_true rfl) (Nat.le_of_ble_eq_true rfl) dX1_init_47 (fun q6 H hP hD hS => ?_)
  have hP : va_P D clsL [(h0, .inr (1, [.ref q1, .ref q2, .ref q3, .ref q4, .ref q5, .null, .int 0, .int 0])), (q1, .inl (ca 0, 24, .inl (fun _ => 0))), (q2, .inl (ca 0, 24, .inl (fun _ => 0))), (q3, .inl (ca 0, 24, .inl (fun _ => 0))), (q4, .inl (ca 1, 24, .inl (fun _ => 0))), (q5, .inl (ca 0, 24, .inl (fun _ => 0))), (q6, .inl (ca 1, 24, .inl (fun _ => 0)))] H := hP
  have hD : va_D (va_A [(h0, .inr (1, [.null, .null, .null, .null, .null, .null, .int 0, .int 0]))] s.heap.size) [(h0, .inr (1, [.ref q1, .ref q2, .ref q3, .ref q4, .ref q5, .null, .int 0, .int 0])), (q1, .inl (ca 0, 24, .inl (fun _ => 0))), (q2, .inl (ca 0, 24, .inl (fun _ => 0))), (q3, .inl (ca 0, 24, .inl (fun _ => 0))), (q4, .inl (ca 1, 24, .inl (fun _ => 0))), (q5, .inl (ca 0, 24, .inl (fun _ => 0))), (q6, .inl (ca 1, 24, .inl (fun _ => 0)))] := hD
  refine W.widen (k := 6) (n := 144) (Nat.le_of_ble_eq_true rfl) (Nat.le_of_ble_eq_true rfl) ?_
  refine xPutF X hin hP hD hS ffX1_28 0 rfl rfl rfl (Nat.le_of_ble_eq_true rfl) dX1_init_49 (fun H locs hP hD hS => ?_)
  have hP : va_P D clsL [(h0, .inr (1, [.ref q1, .ref q2, .ref q3, .ref q4, .ref q5, .ref q6, .int 0, .int 0])), (q1, .inl (ca 0, 24, .inl (fun _ => 0))), (q2, .inl (ca 0, 24, .inl (fun _ => 0))), (q3, .inl (ca 0, 24, .inl (fun _ => 0))), (q4, .inl (ca 1, 24, .inl (fun _ => 0))), (q5, .inl (ca 0, 24, .inl (fun _ => 0))), (q6, .inl (ca 1, 24, .inl (fun _ => 0)))] H := hP
  have hD : va_D (va_A [(h0, .inr (1, [.null, .null, .null, .null, .null, .null, .int 0, .int 0]))] s.heap.size) [(h0, .inr (1, [.ref q1, .ref q2, .ref q3, .ref q4, .ref q5, .ref q6, .int 0, .int 0])), (q1, .inl (ca 0, 24, .inl (fun _ => 0))), (q2, .inl (ca 0, 24, .inl (fun _ => 0))), (q3, .inl (ca 0, 24, .inl (fun _ => 0))), (q4, .inl (ca 1, 24, .inl (fun _ => 0))), (q5, .inl (ca 0, 24, .inl (fun _ => 0))), (q6, .inl (ca 1, 24, .inl (fun _ => 0)))] := hD
  refine lv_aload_n hx hb dX1_init_52 rfl (lv_at hl 0 rfl) ?_
  refine lv_iconst (v := (-1 : Int32)) hx hb dX1_init_53 (by decide) ?_
  refine xPut X hP hD hS fpX1_31 0 rfl rfl rfl (Nat.le_of_ble_eq_true rfl) dX1_init_54 (fun H locs hP hD hS => ?_)
  have hP : va_P D clsL [(h0, .inr (1, [.ref q1, .ref q2, .ref q3, .ref q4, .ref q5, .ref q6, .int 0, .int (-1 : Int32)])), (q1, .inl (ca 0, 24, .inl (fun _ => 0))), (q2, .inl (ca 0, 24, .inl (fun _ => 0))), (q3, .inl (ca 0, 24, .inl (fun _ => 0))), (q4, .inl (ca 1, 24, .inl (fun _ => 0))), (q5, .inl (ca 0, 24, .inl (fun _ => 0))), (q6, .inl (ca 1, 24, .inl (fun _ => 0)))] H := hP
  have hD : va_D (va_A [(h0, .inr (1, [.null, .null, .null, .null, .null, .null, .int 0, .int 0]))] s.heap.size) [(h0, .inr (1, [.ref q1, .ref q2, .ref q3, .ref q4, .ref q5, .ref q6, .int 0, .int (-1 : Int32)])), (q1, .inl (ca 0, 24, .inl (fun _ => 0))), (q2, .inl (ca 0, 24, .inl (fun _ => 0))), (q3, .inl (ca 0, 24, .inl (fun _ => 0))), (q4, .inl (ca 1, 24, .inl (fun _ => 0))), (q5, .inl (ca 0, 24, .inl (fun _ => 0))), (q6, .inl (ca 1, 24, .inl (fun _ => 0)))] := hD
  exact xRet X hr (fun i => [h0, q1, q2, q3, q4, q5, q6].getD i 0) rfl hP hD hS dX1_init_57
abbrev cwX3_init : Cond := .code yX3_init cX3_init 1 none
theorem cmX3_init : cwX3_init ∈ BIG := (tb1 (List.mem_of_getElem? (i := 187) rfl) rfl)
theorem pdX3_init : yX3_init.cls ≠ "java/lang/invoke/MethodHandle" ∧ yX3_init.cls ≠ "java/lang/invoke/VarHandle" ∧ (parseMethodDescriptor yX3_init.desc).map (fun d => d.parameters.length) = some 0 := by decide +kernel
theorem moX3_3 : Cond.methodLink RX3 3 Lib.objectInit ∈ BIG := (tb1 (List.mem_of_getElem? (i := 188) rfl) rfl)
theorem ffX3_11 : FPF RX3 11 3 0 2 (.array .int) := ⟨RX3, TX3, 8, tyX3, rfl, by decide, rfl, rfl, inBX3, lkX3_11, tyX3_ok, nmX3, rfl, rfl, rfl⟩
theorem ffX3_15 : FPF RX3 15 3 1 2 (.array .int) := ⟨RX3, TX3, 8, tyX3, rfl, by decide, rfl, rfl, inBX3, lkX3_15, tyX3_ok, nmX3, rfl, rfl, rfl⟩
theorem ffX3_18 : FPF RX3 18 3 2 2 (.array .int) := ⟨RX3, TX3, 8, tyX3, rfl, by decide, rfl, rfl, inBX3, lkX3_18, tyX3_ok, nmX3, rfl, rfl, rfl⟩
theorem ffX3_21 : FPF RX3 21 3 3 2 (.array .int) := ⟨RX3, TX3, 8, tyX3, rfl, by decide, rfl, rfl, inBX3, lkX3_21, tyX3_ok, nmX3, rfl, rfl, rfl⟩
theorem ffX3_24 : FPF RX3 24 3 4 2 (.array .long) := ⟨RX3, TX3, 8, tyX3, rfl, by decide, rfl, rfl, inBX3, lkX3_24, tyX3_ok, nmX3, rfl, rfl, rfl⟩
theorem ffX3_28 : FPF RX3 28 3 5 2 (.array .long) := ⟨RX3, TX3, 8, tyX3, rfl, by decide, rfl, rfl, inBX3, lkX3_28, tyX3_ok, nmX3, rfl, rfl, rfl⟩
abbrev nlX3_init (ca : Nat → Nat)  (a : Nat → Nat) : va_W := [((a 0), .inr (3, [.ref (a 1), .ref (a 2), .ref (a 3), .ref (a 4), .ref (a 5), .ref (a 6), .int 0, .int 0])), ((a 1), .inl (ca 0, 64, .inl (fun _ => 0))), ((a 2), .inl (ca 0, 64, .inl (fun _ => 0))), ((a 3), .inl (ca 0, 3, .inl (fun _ => 0))), ((a 4), .inl (ca 0, 3, .inl (fun _ => 0))), ((a 5), .inl (ca 3, 7, .inr (.inl (fun _ => 0)))), ((a 6), .inl (ca 3, 64, .inr (.inl (fun _ => 0))))]
abbrev rmcX3_init : Room := { frames := 1, cells := 6, slots := 205, locals := 20 }
set_option maxHeartbeats 4000000 in
set_option maxRecDepth 100000 in
theorem ccX3_init {l : Launch} {D : va_G} {ca : Nat → ClassId} (h0 : Nat)  : CC l D ca yX3_init cwX3_init rmcX3_init [.ref h0] [(h0, .inr (3, [.null, .null, .null, .null, .null, .null, .int 0, .int 0]))] h0 (nlX3_init ca ) 6 205 := by
  refine startC (by decide) rfl (Nat.le_of_ble_eq_true rfl) ?_
  intro p e s mm args below meth c ls X hin hr hP hD hS hl
  have X : CXc p s mm args meth c cX3_init 1 RX3 D ca (va_A [(h0, .inr (3, [.null, .null, .null, .null, .null, .null, .int 0, .int 0]))] s.heap.size) := X
  have hx := X.1
  have hb := X.2.1
  have hl : lv_has ls 1 [(0, .ref h0)] := hl
  refine lv_aload_n hx hb dX3_init_0 rfl (lv_at hl 0 rfl) ?_
  refine xObj X moX3_3 hl.1 dX3_init_1 (Nat.le_of_ble_eq_true rfl) (Nat.le_of_ble_eq_true rfl) ?_
  refine lv_aload_n hx hb dX3_init_4 rfl (lv_at hl 0 rfl) ?_
  refine lv_bipush (v := (64 : Int32)) hx hb dX3_init_5 (by decide) ?_
  refine xNewI (N' := 64) X hP hD hS (by decide) (by decide) (Nat.le_of_ble_eq_true rfl) (Nat.le_of_ble_eq_true rfl) (Nat.le_of_ble_eq_true rfl) dX3_init_7 (fun q1 H hP hD hS => ?_)
  have hP : va_P D clsL [(h0, .inr (3, [.null, .null, .null, .null, .null, .null, .int 0, .int 0])), (q1, .inl (ca 0, 64, .inl (fun _ => 0)))] H := hP
  have hD : va_D (va_A [(h0, .inr (3, [.null, .null, .null, .null, .null, .null, .int 0, .int 0]))] s.heap.size) [(h0, .inr (3, [.null, .null, .null, .null, .null, .null, .int 0, .int 0])), (q1, .inl (ca 0, 64, .inl (fun _ => 0)))] := hD
  refine W.widen (k := 1) (n := 64) (Nat.le_of_ble_eq_true rfl) (Nat.le_of_ble_eq_true rfl) ?_
  refine xPutF X hin hP hD hS ffX3_11 0 rfl rfl rfl (Nat.le_of_ble_eq_true rfl) dX3_init_9 (fun H locs hP hD hS => ?_)
  have hP : va_P D clsL [(h0, .inr (3, [.ref q1, .null, .null, .null, .null, .null, .int 0, .int 0])), (q1, .inl (ca 0, 64, .inl (fun _ => 0)))] H := hP
  have hD : va_D (va_A [(h0, .inr (3, [.null, .null, .null, .null, .null, .null, .int 0, .int 0]))] s.heap.size) [(h0, .inr (3, [.ref q1, .null, .null, .null, .null, .null, .int 0, .int 0])), (q1, .inl (ca 0, 64, .inl (fun _ => 0)))] := hD
  refine lv_aload_n hx hb dX3_init_12 rfl (lv_at hl 0 rfl) ?_
  refine lv_bipush (v := (64 : Int32)) hx hb dX3_init_13 (by decide) ?_
  refine xNewI (N' := 64) X hP hD hS (by decide) (by decide) (Nat.le_of_ble_eq_true rfl) (Nat.le_of_ble_eq_true rfl) (Nat.le_of_ble_eq_true rfl) dX3_init_15 (fun q2 H hP hD hS => ?_)
  have hP : va_P D clsL [(h0, .inr (3, [.ref q1, .null, .null, .null, .null, .null, .int 0, .int 0])), (q1, .inl (ca 0, 64, .inl (fun _ => 0))), (q2, .inl (ca 0, 64, .inl (fun _ => 0)))] H := hP
  have hD : va_D (va_A [(h0, .inr (3, [.null, .null, .null, .null, .null, .null, .int 0, .int 0]))] s.heap.size) [(h0, .inr (3, [.ref q1, .null, .null, .null, .null, .null, .int 0, .int 0])), (q1, .inl (ca 0, 64, .inl (fun _ => 0))), (q2, .inl (ca 0, 64, .inl (fun _ => 0)))] := hD
  refine W.widen (k := 2) (n := 128) (Nat.le_of_ble_eq_true rfl) (Nat.le_of_ble_eq_true rfl) ?_
  refine xPutF X hin hP hD hS ffX3_15 0 rfl rfl rfl (Nat.le_of_ble_eq_true rfl) dX3_init_17 (fun H locs hP hD hS => ?_)
  have hP : va_P D clsL [(h0, .inr (3, [.ref q1, .ref q2, .null, .null, .null, .null, .int 0, .int 0])), (q1, .inl (ca 0, 64, .inl (fun _ => 0))), (q2, .inl (ca 0, 64, .inl (fun _ => 0)))] H := hP
  have hD : va_D (va_A [(h0, .inr (3, [.null, .null, .null, .null, .null, .null, .int 0, .int 0]))] s.heap.size) [(h0, .inr (3, [.ref q1, .ref q2, .null, .null, .null, .null, .int 0, .int 0])), (q1, .inl (ca 0, 64, .inl (fun _ => 0))), (q2, .inl (ca 0, 64, .inl (fun _ => 0)))] := hD
  refine lv_aload_n hx hb dX3_init_20 rfl (lv_at hl 0 rfl) ?_
  refine lv_iconst (v := (3 : Int32)) hx hb dX3_init_21 (by decide) ?_
  refine xNewI (N' := 3) X hP hD hS (by decide) (by decide) (Nat.le_of_ble_eq_true rfl) (Nat.le_of_ble_eq_true rfl) (Nat.le_of_ble_eq_true rfl) dX3_init_22 (fun q3 H hP hD hS => ?_)
  have hP : va_P D clsL [(h0, .inr (3, [.ref q1, .ref q2, .null, .null, .null, .null, .int 0, .int 0])), (q1, .inl (ca 0, 64, .inl (fun _ => 0))), (q2, .inl (ca 0, 64, .inl (fun _ => 0))), (q3, .inl (ca 0, 3, .inl (fun _ => 0)))] H := hP
  have hD : va_D (va_A [(h0, .inr (3, [.null, .null, .null, .null, .null, .null, .int 0, .int 0]))] s.heap.size) [(h0, .inr (3, [.ref q1, .ref q2, .null, .null, .null, .null, .int 0, .int 0])), (q1, .inl (ca 0, 64, .inl (fun _ => 0))), (q2, .inl (ca 0, 64, .inl (fun _ => 0))), (q3, .inl (ca 0, 3, .inl (fun _ => 0)))] := hD
  refine W.widen (k := 3) (n := 131) (Nat.le_of_ble_eq_true rfl) (Nat.le_of_ble_eq_true rfl) ?_
  refine xPutF X hin hP hD hS ffX3_18 0 rfl rfl rfl (Nat.le_of_ble_eq_true rfl) dX3_init_24 (fun H locs hP hD hS => ?_)
  have hP : va_P D clsL [(h0, .inr (3, [.ref q1, .ref q2, .ref q3, .null, .null, .null, .int 0, .int 0])), (q1, .inl (ca 0, 64, .inl (fun _ => 0))), (q2, .inl (ca 0, 64, .inl (fun _ => 0))), (q3, .inl (ca 0, 3, .inl (fun _ => 0)))] H := hP
  have hD : va_D (va_A [(h0, .inr (3, [.null, .null, .null, .null, .null, .null, .int 0, .int 0]))] s.heap.size) [(h0, .inr (3, [.ref q1, .ref q2, .ref q3, .null, .null, .null, .int 0, .int 0])), (q1, .inl (ca 0, 64, .inl (fun _ => 0))), (q2, .inl (ca 0, 64, .inl (fun _ => 0))), (q3, .inl (ca 0, 3, .inl (fun _ => 0)))] := hD
  refine lv_aload_n hx hb dX3_init_27 rfl (lv_at hl 0 rfl) ?_
  refine lv_iconst (v := (3 : Int32)) hx hb dX3_init_28 (by decide) ?_
  refine xNewI (N' := 3) X hP hD hS (by decide) (by decide) (Nat.le_of_ble_eq_true rfl) (Nat.le_of_ble_eq_true rfl) (Nat.le_of_ble_eq_true rfl) dX3_init_29 (fun q4 H hP hD hS => ?_)
  have hP : va_P D clsL [(h0, .inr (3, [.ref q1, .ref q2, .ref q3, .null, .null, .null, .int 0, .int 0])), (q1, .inl (ca 0, 64, .inl (fun _ => 0))), (q2, .inl (ca 0, 64, .inl (fun _ => 0))), (q3, .inl (ca 0, 3, .inl (fun _ => 0))), (q4, .inl (ca 0, 3, .inl (fun _ => 0)))] H := hP
  have hD : va_D (va_A [(h0, .inr (3, [.null, .null, .null, .null, .null, .null, .int 0, .int 0]))] s.heap.size) [(h0, .inr (3, [.ref q1, .ref q2, .ref q3, .null, .null, .null, .int 0, .int 0])), (q1, .inl (ca 0, 64, .inl (fun _ => 0))), (q2, .inl (ca 0, 64, .inl (fun _ => 0))), (q3, .inl (ca 0, 3, .inl (fun _ => 0))), (q4, .inl (ca 0, 3, .inl (fun _ => 0)))] := hD
  refine W.widen (k := 4) (n := 134) (Nat.le_of_ble_eq_true rfl) (Nat.le_of_ble_eq_true rfl) ?_
  refine xPutF X hin hP hD hS ffX3_21 0 rfl rfl rfl (Nat.le_of_ble_eq_true rfl) dX3_init_31 (fun H locs hP hD hS => ?_)
  have hP : va_P D clsL [(h0, .inr (3, [.ref q1, .ref q2, .ref q3, .ref q4, .null, .null, .int 0, .int 0])), (q1, .inl (ca 0, 64, .inl (fun _ => 0))), (q2, .inl (ca 0, 64, .inl (fun _ => 0))), (q3, .inl (ca 0, 3, .inl (fun _ => 0))), (q4, .inl (ca 0, 3, .inl (fun _ => 0)))] H := hP
  have hD : va_D (va_A [(h0, .inr (3, [.null, .null, .null, .null, .null, .null, .int 0, .int 0]))] s.heap.size) [(h0, .inr (3, [.ref q1, .ref q2, .ref q3, .ref q4, .null, .null, .int 0, .int 0])), (q1, .inl (ca 0, 64, .inl (fun _ => 0))), (q2, .inl (ca 0, 64, .inl (fun _ => 0))), (q3, .inl (ca 0, 3, .inl (fun _ => 0))), (q4, .inl (ca 0, 3, .inl (fun _ => 0)))] := hD
  refine lv_aload_n hx hb dX3_init_34 rfl (lv_at hl 0 rfl) ?_
  refine lv_bipush (v := (7 : Int32)) hx hb dX3_init_35 (by decide) ?_
  refine xNewL (N' := 7) X hP hD hS (by decide) (by decide) (Nat.le_of_ble_eq_true rfl) (Nat.le_of_ble_eq_true rfl) (Nat.le_of_ble_eq_true rfl) dX3_init_37 (fun q5 H hP hD hS => ?_)
  have hP : va_P D clsL [(h0, .inr (3, [.ref q1, .ref q2, .ref q3, .ref q4, .null, .null, .int 0, .int 0])), (q1, .inl (ca 0, 64, .inl (fun _ => 0))), (q2, .inl (ca 0, 64, .inl (fun _ => 0))), (q3, .inl (ca 0, 3, .inl (fun _ => 0))), (q4, .inl (ca 0, 3, .inl (fun _ => 0))), (q5, .inl (ca 3, 7, .inr (.inl (fun _ => 0))))] H := hP
  have hD : va_D (va_A [(h0, .inr (3, [.null, .null, .null, .null, .null, .null, .int 0, .int 0]))] s.heap.size) [(h0, .inr (3, [.ref q1, .ref q2, .ref q3, .ref q4, .null, .null, .int 0, .int 0])), (q1, .inl (ca 0, 64, .inl (fun _ => 0))), (q2, .inl (ca 0, 64, .inl (fun _ => 0))), (q3, .inl (ca 0, 3, .inl (fun _ => 0))), (q4, .inl (ca 0, 3, .inl (fun _ => 0))), (q5, .inl (ca 3, 7, .inr (.inl (fun _ => 0))))] := hD
  refine W.widen (k := 5) (n := 141) (Nat.le_of_ble_eq_true rfl) (Nat.le_of_ble_eq_true rfl) ?_
  refine xPutF X hin hP hD hS ffX3_24 0 rfl rfl rfl (Nat.le_of_ble_eq_true rfl) dX3_init_39 (fun H locs hP hD hS => ?_)
  have hP : va_P D clsL [(h0, .inr (3, [.ref q1, .ref q2, .ref q3, .ref q4, .ref q5, .null, .int 0, .int 0])), (q1, .inl (ca 0, 64, .inl (fun _ => 0))), (q2, .inl (ca 0, 64, .inl (fun _ => 0))), (q3, .inl (ca 0, 3, .inl (fun _ => 0))), (q4, .inl (ca 0, 3, .inl (fun _ => 0))), (q5, .inl (ca 3, 7, .inr (.inl (fun _ => 0))))] H := hP
  have hD : va_D (va_A [(h0, .inr (3, [.null, .null, .null, .null, .null, .null, .int 0, .int 0]))] s.heap.size) [(h0, .inr (3, [.ref q1, .ref q2, .ref q3, .ref q4, .ref q5, .null, .int 0, .int 0])), (q1, .inl (ca 0, 64, .inl (fun _ => 0))), (q2, .inl (ca 0, 64, .inl (fun _ => 0))), (q3, .inl (ca 0, 3, .inl (fun _ => 0))), (q4, .inl (ca 0, 3, .inl (fun _ => 0))), (q5, .inl (ca 3, 7, .inr (.inl (fun _ => 0))))] := hD
  refine lv_aload_n hx hb dX3_init_42 rfl (lv_at hl 0 rfl) ?_
  refine lv_bipush (v := (64 : Int32)) hx hb dX3_init_43 (by decide) ?_
  refine xNewL (N' := 64) X hP hD hS (by decide) (by decide) (Nat.le_of_ble_eq_true rfl) (Nat.le_of_ble_eq_true rfl) (Nat.le_of_ble_eq_true rfl) dX3_init_45 (fun q6 H hP hD hS => ?_)
  have hP : va_P D clsL [(h0, .inr (3, [.ref q1, .ref q2, .ref q3, .ref q4, .ref q5, .null, .int 0, .int 0])), (q1, .inl (ca 0, 64, .inl (fun _ => 0))), (q2, .inl (ca 0, 64, .inl (fun _ => 0))), (q3, .inl (ca 0, 3, .inl (fun _ => 0))), (q4, .inl (ca 0, 3, .inl (fun _ => 0))), (q5, .inl (ca 3, 7, .inr (.inl (fun _ => 0)))), (q6, .inl (ca 3, 64, .inr (.inl (fun _ => 0))))] H := hP
  have hD : va_D (va_A [(h0, .inr (3, [.null, .null, .null, .null, .null, .null, .int 0, .int 0]))] s.heap.size) [(h0, .inr (3, [.ref q1, .ref q2, .ref q3, .ref q4, .ref q5, .null, .int 0, .int 0])), (q1, .inl (ca 0, 64, .inl (fun _ => 0))), (q2, .inl (ca 0, 64, .inl (fun _ => 0))), (q3, .inl (ca 0, 3, .inl (fun _ => 0))), (q4, .inl (ca 0, 3, .inl (fun _ => 0))), (q5, .inl (ca 3, 7, .inr (.inl (fun _ => 0)))), (q6, .inl (ca 3, 64, .inr (.inl (fun _ => 0))))] := hD
  refine W.widen (k := 6) (n := 205) (Nat.le_of_ble_eq_true rfl) (Nat.le_of_ble_eq_true rfl) ?_
  refine xPutF X hin hP hD hS ffX3_28 0 rfl rfl rfl (Nat.le_of_ble_eq_true rfl) dX3_init_47 (fun H locs hP hD hS => ?_)
  have hP : va_P D clsL [(h0, .inr (3, [.ref q1, .ref q2, .ref q3, .ref q4, .ref q5, .ref q6, .int 0, .int 0])), (q1, .inl (ca 0, 64, .inl (fun _ => 0))), (q2, .inl (ca 0, 64, .inl (fun _ => 0))), (q3, .inl (ca 0, 3, .inl (fun _ => 0))), (q4, .inl (ca 0, 3, .inl (fun _ => 0))), (q5, .inl (ca 3, 7, .inr (.inl (fun _ => 0)))), (q6, .inl (ca 3, 64, .inr (.inl (fun _ => 0))))] H := hP
  have hD : va_D (va_A [(h0, .inr (3, [.null, .null, .null, .null, .null, .null, .int 0, .int 0]))] s.heap.size) [(h0, .inr (3, [.ref q1, .ref q2, .ref q3, .ref q4, .ref q5, .ref q6, .int 0, .int 0])), (q1, .inl (ca 0, 64, .inl (fun _ => 0))), (q2, .inl (ca 0, 64, .inl (fun _ => 0))), (q3, .inl (ca 0, 3, .inl (fun _ => 0))), (q4, .inl (ca 0, 3, .inl (fun _ => 0))), (q5, .inl (ca 3, 7, .inr (.inl (fun _ => 0)))), (q6, .inl (ca 3, 64, .inr (.inl (fun _ => 0))))] := hD
  exact xRet X hr (fun i => [h0, q1, q2, q3, q4, q5, q6].getD i 0) rfl hP hD hS dX3_init_50
abbrev cwX4_init : Cond := .code yX4_init cX4_init 1 none
theorem cmX4_init : cwX4_init ∈ BIG := (tb2 (List.mem_of_getElem? (i := 219) rfl) rfl)
theorem pdX4_init : yX4_init.cls ≠ "java/lang/invoke/MethodHandle" ∧ yX4_init.cls ≠ "java/lang/invoke/VarHandle" ∧ (parseMethodDescriptor yX4_init.desc).map (fun d => d.parameters.length) = some 0 := by decide +kernel
theorem moX4_3 : Cond.methodLink RX4 3 Lib.objectInit ∈ BIG := (tb2 (List.mem_of_getElem? (i := 220) rfl) rfl)
theorem ffX4_11 : FPF RX4 11 4 0 2 (.array .int) := ⟨RX4, TX4, 5, tyX4, rfl, by decide, rfl, rfl, inBX4, lkX4_11, tyX4_ok, nmX4, rfl, rfl, rfl⟩
theorem ffX4_15 : FPF RX4 15 4 1 2 (.array .boolean) := ⟨RX4, TX4, 5, tyX4, rfl, by decide, rfl, rfl, inBX4, lkX4_15, tyX4_ok, nmX4, rfl, rfl, rfl⟩
theorem ffX4_19 : FPF RX4 19 4 2 2 (.array .int) := ⟨RX4, TX4, 5, tyX4, rfl, by decide, rfl, rfl, inBX4, lkX4_19, tyX4_ok, nmX4, rfl, rfl, rfl⟩
abbrev nlX4_init (ca : Nat → Nat)  (a : Nat → Nat) : va_W := [((a 0), .inr (4, [.ref (a 1), .ref (a 2), .ref (a 3), .int 0, .int 0])), ((a 1), .inl (ca 0, 448, .inl (fun _ => 0))), ((a 2), .inl (ca 1, 36, .inl (fun _ => 0))), ((a 3), .inl (ca 0, 6, .inl (fun _ => 0)))]
abbrev rmcX4_init : Room := { frames := 1, cells := 3, slots := 490, locals := 20 }
set_option maxHeartbeats 4000000 in
set_option maxRecDepth 100000 in
theorem ccX4_init {l : Launch} {D : va_G} {ca : Nat → ClassId} (h0 : Nat)  : CC l D ca yX4_init cwX4_init rmcX4_init [.ref h0] [(h0, .inr (4, [.null, .null, .null, .int 0, .int 0]))] h0 (nlX4_init ca ) 3 490 := by
  refine startC (by decide) rfl (Nat.le_of_ble_eq_true rfl) ?_
  intro p e s mm args below meth c ls X hin hr hP hD hS hl
  have X : CXc p s mm args meth c cX4_init 1 RX4 D ca (va_A [(h0, .inr (4, [.null, .null, .null, .int 0, .int 0]))] s.heap.size) := X
  have hx := X.1
  have hb := X.2.1
  have hl : lv_has ls 1 [(0, .ref h0)] := hl
  refine lv_aload_n hx hb dX4_init_0 rfl (lv_at hl 0 rfl) ?_
  refine xObj X moX4_3 hl.1 dX4_init_1 (Nat.le_of_ble_eq_true rfl) (Nat.le_of_ble_eq_true rfl) ?_
  refine lv_aload_n hx hb dX4_init_4 rfl (lv_at hl 0 rfl) ?_
  refine lv_sipush (v := (448 : Int32)) hx hb dX4_init_5 (by decide) ?_
  refine xNewI (N' := 448) X hP hD hS (by decide) (by decide) (Nat.le_of_ble_eq_true rfl) (Nat.le_of_ble_eq_true rfl) (Nat.le_of_ble_eq_true rfl) dX4_init_8 (fun q1 H hP hD hS => ?_)
  have hP : va_P D clsL [(h0, .inr (4, [.null, .null, .null, .int 0, .int 0])), (q1, .inl (ca 0, 448, .inl (fun _ => 0)))] H := hP
  have hD : va_D (va_A [(h0, .inr (4, [.null, .null, .null, .int 0, .int 0]))] s.heap.size) [(h0, .inr (4, [.null, .null, .null, .int 0, .int 0])), (q1, .inl (ca 0, 448, .inl (fun _ => 0)))] := hD
  refine W.widen (k := 1) (n := 448) (Nat.le_of_ble_eq_true rfl) (Nat.le_of_ble_eq_true rfl) ?_
  refine xPutF X hin hP hD hS ffX4_11 0 rfl rfl rfl (Nat.le_of_ble_eq_true rfl) dX4_init_10 (fun H locs hP hD hS => ?_)
  have hP : va_P D clsL [(h0, .inr (4, [.ref q1, .null, .null, .int 0, .int 0])), (q1, .inl (ca 0, 448, .inl (fun _ => 0)))] H := hP
  have hD : va_D (va_A [(h0, .inr (4, [.null, .null, .null, .int 0, .int 0]))] s.heap.size) [(h0, .inr (4, [.ref q1, .null, .null, .int 0, .int 0])), (q1, .inl (ca 0, 448, .inl (fun _ => 0)))] := hD
  refine lv_aload_n hx hb dX4_init_13 rfl (lv_at hl 0 rfl) ?_
  refine lv_bipush (v := (36 : Int32)) hx hb dX4_init_14 (by decide) ?_
  refine xNewZ (N' := 36) X hP hD hS (by decide) (by decide) (Nat.le_of_ble_eq_true rfl) (Nat.le_of_ble_eq_true rfl) (Nat.le_of_ble_eq_true rfl) dX4_init_16 (fun q2 H hP hD hS => ?_)
  have hP : va_P D clsL [(h0, .inr (4, [.ref q1, .null, .null, .int 0, .int 0])), (q1, .inl (ca 0, 448, .inl (fun _ => 0))), (q2, .inl (ca 1, 36, .inl (fun _ => 0)))] H := hP
  have hD : va_D (va_A [(h0, .inr (4, [.null, .null, .null, .int 0, .int 0]))] s.heap.size) [(h0, .inr (4, [.ref q1, .null, .null, .int 0, .int 0])), (q1, .inl (ca 0, 448, .inl (fun _ => 0))), (q2, .inl (ca 1, 36, .inl (fun _ => 0)))] := hD
  refine W.widen (k := 2) (n := 484) (Nat.le_of_ble_eq_true rfl) (Nat.le_of_ble_eq_true rfl) ?_
  refine xPutF X hin hP hD hS ffX4_15 0 rfl rfl rfl (Nat.le_of_ble_eq_true rfl) dX4_init_18 (fun H locs hP hD hS => ?_)
  have hP : va_P D clsL [(h0, .inr (4, [.ref q1, .ref q2, .null, .int 0, .int 0])), (q1, .inl (ca 0, 448, .inl (fun _ => 0))), (q2, .inl (ca 1, 36, .inl (fun _ => 0)))] H := hP
  have hD : va_D (va_A [(h0, .inr (4, [.null, .null, .null, .int 0, .int 0]))] s.heap.size) [(h0, .inr (4, [.ref q1, .ref q2, .null, .int 0, .int 0])), (q1, .inl (ca 0, 448, .inl (fun _ => 0))), (q2, .inl (ca 1, 36, .inl (fun _ => 0)))] := hD
  refine lv_aload_n hx hb dX4_init_21 rfl (lv_at hl 0 rfl) ?_
  refine lv_bipush (v := (6 : Int32)) hx hb dX4_init_22 (by decide) ?_
  refine xNewI (N' := 6) X hP hD hS (by decide) (by decide) (Nat.le_of_ble_eq_true rfl) (Nat.le_of_ble_eq_true rfl) (Nat.le_of_ble_eq_true rfl) dX4_init_24 (fun q3 H hP hD hS => ?_)
  have hP : va_P D clsL [(h0, .inr (4, [.ref q1, .ref q2, .null, .int 0, .int 0])), (q1, .inl (ca 0, 448, .inl (fun _ => 0))), (q2, .inl (ca 1, 36, .inl (fun _ => 0))), (q3, .inl (ca 0, 6, .inl (fun _ => 0)))] H := hP
  have hD : va_D (va_A [(h0, .inr (4, [.null, .null, .null, .int 0, .int 0]))] s.heap.size) [(h0, .inr (4, [.ref q1, .ref q2, .null, .int 0, .int 0])), (q1, .inl (ca 0, 448, .inl (fun _ => 0))), (q2, .inl (ca 1, 36, .inl (fun _ => 0))), (q3, .inl (ca 0, 6, .inl (fun _ => 0)))] := hD
  refine W.widen (k := 3) (n := 490) (Nat.le_of_ble_eq_true rfl) (Nat.le_of_ble_eq_true rfl) ?_
  refine xPutF X hin hP hD hS ffX4_19 0 rfl rfl rfl (Nat.le_of_ble_eq_true rfl) dX4_init_26 (fun H locs hP hD hS => ?_)
  have hP : va_P D clsL [(h0, .inr (4, [.ref q1, .ref q2, .ref q3, .int 0, .int 0])), (q1, .inl (ca 0, 448, .inl (fun _ => 0))), (q2, .inl (ca 1, 36, .inl (fun _ => 0))), (q3, .inl (ca 0, 6, .inl (fun _ => 0)))] H := hP
  have hD : va_D (va_A [(h0, .inr (4, [.null, .null, .null, .int 0, .int 0]))] s.heap.size) [(h0, .inr (4, [.ref q1, .ref q2, .ref q3, .int 0, .int 0])), (q1, .inl (ca 0, 448, .inl (fun _ => 0))), (q2, .inl (ca 1, 36, .inl (fun _ => 0))), (q3, .inl (ca 0, 6, .inl (fun _ => 0)))] := hD
  exact xRet X hr (fun i => [h0, q1, q2, q3].getD i 0) rfl hP hD hS dX4_init_29
abbrev cwX5_init : Cond := .code yX5_init cX5_init 1 none
theorem cmX5_init : cwX5_init ∈ BIG := (tb2 (List.mem_of_getElem? (i := 127) rfl) rfl)
theorem pdX5_init : yX5_init.cls ≠ "java/lang/invoke/MethodHandle" ∧ yX5_init.cls ≠ "java/lang/invoke/VarHandle" ∧ (parseMethodDescriptor yX5_init.desc).map (fun d => d.parameters.length) = some 0 := by decide +kernel
theorem moX5_3 : Cond.methodLink RX5 3 Lib.objectInit ∈ BIG := (tb2 (List.mem_of_getElem? (i := 128) rfl) rfl)
abbrev nlX5_init (ca : Nat → Nat)  (a : Nat → Nat) : va_W := [((a 0), .inr (5, [.int 0, .int (-1 : Int32), .int (1 : Int32), .int (1 : Int32)]))]
abbrev rmcX5_init : Room := { frames := 1, cells := 0, slots := 0, locals := 20 }
set_option maxHeartbeats 4000000 in
set_option maxRecDepth 100000 in
theorem ccX5_init {l : Launch} {D : va_G} {ca : Nat → ClassId} (h0 : Nat)  : CC l D ca yX5_init cwX5_init rmcX5_init [.ref h0] [(h0, .inr (5, [.int 0, .int 0, .int 0, .int 0]))] h0 (nlX5_init ca ) 0 0 := by
  refine startC (by decide) rfl (Nat.le_of_ble_eq_true rfl) ?_
  intro p e s mm args below meth c ls X hin hr hP hD hS hl
  have X : CXc p s mm args meth c cX5_init 1 RX5 D ca (va_A [(h0, .inr (5, [.int 0, .int 0, .int 0, .int 0]))] s.heap.size) := X
  have hx := X.1
  have hb := X.2.1
  have hl : lv_has ls 1 [(0, .ref h0)] := hl
  refine lv_aload_n hx hb dX5_init_0 rfl (lv_at hl 0 rfl) ?_
  refine xObj X moX5_3 hl.1 dX5_init_1 (Nat.le_of_ble_eq_true rfl) (Nat.le_of_ble_eq_true rfl) ?_
  refine lv_aload_n hx hb dX5_init_4 rfl (lv_at hl 0 rfl) ?_
  refine lv_iconst (v := (-1 : Int32)) hx hb dX5_init_5 (by decide) ?_
  refine xPut X hP hD hS fpX5_9 0 rfl rfl rfl (Nat.le_of_ble_eq_true rfl) dX5_init_6 (fun H locs hP hD hS => ?_)
  have hP : va_P D clsL [(h0, .inr (5, [.int 0, .int (-1 : Int32), .int 0, .int 0]))] H := hP
  have hD : va_D (va_A [(h0, .inr (5, [.int 0, .int 0, .int 0, .int 0]))] s.heap.size) [(h0, .inr (5, [.int 0, .int (-1 : Int32), .int 0, .int 0]))] := hD
  refine lv_aload_n hx hb dX5_init_9 rfl (lv_at hl 0 rfl) ?_
  refine lv_iconst (v := (1 : Int32)) hx hb dX5_init_10 (by decide) ?_
  refine xPut X hP hD hS fpX5_15 0 rfl (by decide) (by decide) (Nat.le_of_ble_eq_true rfl) dX5_init_11 (fun H locs hP hD hS => ?_)
  have hP : va_P D clsL [(h0, .inr (5, [.int 0, .int (-1 : Int32), .int (1 : Int32), .int 0]))] H := hP
  have hD : va_D (va_A [(h0, .inr (5, [.int 0, .int 0, .int 0, .int 0]))] s.heap.size) [(h0, .inr (5, [.int 0, .int (-1 : Int32), .int (1 : Int32), .int 0]))] := hD
  refine lv_aload_n hx hb dX5_init_14 rfl (lv_at hl 0 rfl) ?_
  refine lv_iconst (v := (1 : Int32)) hx hb dX5_init_15 (by decide) ?_
  refine xPut X hP hD hS fpX5_19 0 rfl (by decide) (by decide) (Nat.le_of_ble_eq_true rfl) dX5_init_16 (fun H locs hP hD hS => ?_)
  have hP : va_P D clsL [(h0, .inr (5, [.int 0, .int (-1 : Int32), .int (1 : Int32), .int (1 : Int32)]))] H := hP
  have hD : va_D (va_A [(h0, .inr (5, [.int 0, .int 0, .int 0, .int 0]))] s.heap.size) [(h0, .inr (5, [.int 0, .int (-1 : Int32), .int (1 : Int32), .int (1 : Int32)]))] := hD
  exact xRet X hr (fun i => [h0].getD i 0) rfl hP hD hS dX5_init_19
abbrev cwX7_init : Cond := .code yX7_init cX7_init 1 none
theorem cmX7_init : cwX7_init ∈ BIG := (tb2 (List.mem_of_getElem? (i := 146) rfl) rfl)
theorem pdX7_init : yX7_init.cls ≠ "java/lang/invoke/MethodHandle" ∧ yX7_init.cls ≠ "java/lang/invoke/VarHandle" ∧ (parseMethodDescriptor yX7_init.desc).map (fun d => d.parameters.length) = some 0 := by decide +kernel
theorem moX7_3 : Cond.methodLink RX7 3 Lib.objectInit ∈ BIG := (tb2 (List.mem_of_getElem? (i := 147) rfl) rfl)
theorem ffX7_11 : FPF RX7 11 7 0 2 (.array .int) := ⟨RX7, TX7, 2, tyX7, rfl, by decide, rfl, rfl, inBX7, lkX7_11, tyX7_ok, nmX7, rfl, rfl, rfl⟩
abbrev nlX7_init (ca : Nat → Nat)  (a : Nat → Nat) : va_W := [((a 0), .inr (7, [.ref (a 1), .int 0])), ((a 1), .inl (ca 0, 480, .inl (fun _ => 0)))]
abbrev rmcX7_init : Room := { frames := 1, cells := 1, slots := 480, locals := 20 }
set_option maxHeartbeats 4000000 in
set_option maxRecDepth 100000 in
theorem ccX7_init {l : Launch} {D : va_G} {ca : Nat → ClassId} (h0 : Nat)  : CC l D ca yX7_init cwX7_init rmcX7_init [.ref h0] [(h0, .inr (7, [.null, .int 0]))] h0 (nlX7_init ca ) 1 480 := by
  refine startC (by decide) rfl (Nat.le_of_ble_eq_true rfl) ?_
  intro p e s mm args below meth c ls X hin hr hP hD hS hl
  have X : CXc p s mm args meth c cX7_init 1 RX7 D ca (va_A [(h0, .inr (7, [.null, .int 0]))] s.heap.size) := X
  have hx := X.1
  have hb := X.2.1
  have hl : lv_has ls 1 [(0, .ref h0)] := hl
  refine lv_aload_n hx hb dX7_init_0 rfl (lv_at hl 0 rfl) ?_
  refine xObj X moX7_3 hl.1 dX7_init_1 (Nat.le_of_ble_eq_true rfl) (Nat.le_of_ble_eq_true rfl) ?_
  refine lv_aload_n hx hb dX7_init_4 rfl (lv_at hl 0 rfl) ?_
  refine lv_sipush (v := (480 : Int32)) hx hb dX7_init_5 (by decide) ?_
  refine xNewI (N' := 480) X hP hD hS (by decide) (by decide) (Nat.le_of_ble_eq_true rfl) (Nat.le_of_ble_eq_true rfl) (Nat.le_of_ble_eq_true rfl) dX7_init_8 (fun q1 H hP hD hS => ?_)
  have hP : va_P D clsL [(h0, .inr (7, [.null, .int 0])), (q1, .inl (ca 0, 480, .inl (fun _ => 0)))] H := hP
  have hD : va_D (va_A [(h0, .inr (7, [.null, .int 0]))] s.heap.size) [(h0, .inr (7, [.null, .int 0])), (q1, .inl (ca 0, 480, .inl (fun _ => 0)))] := hD
  refine W.widen (k := 1) (n := 480) (Nat.le_of_ble_eq_true rfl) (Nat.le_of_ble_eq_true rfl) ?_
  refine xPutF X hin hP hD hS ffX7_11 0 rfl rfl rfl (Nat.le_of_ble_eq_true rfl) dX7_init_10 (fun H locs hP hD hS => ?_)
  have hP : va_P D clsL [(h0, .inr (7, [.ref q1, .int 0])), (q1, .inl (ca 0, 480, .inl (fun _ => 0)))] H := hP
  have hD : va_D (va_A [(h0, .inr (7, [.null, .int 0]))] s.heap.size) [(h0, .inr (7, [.ref q1, .int 0])), (q1, .inl (ca 0, 480, .inl (fun _ => 0)))] := hD
  exact xRet X hr (fun i => [h0, q1].getD i 0) rfl hP hD hS dX7_init_13
abbrev cwX9_init : Cond := .code yX9_init cX9_init 2 none
theorem cmX9_init : cwX9_init ∈ BIG := (tb1 (List.mem_of_getElem? (i := 166) rfl) rfl)
theorem pdX9_init : yX9_init.cls ≠ "java/lang/invoke/MethodHandle" ∧ yX9_init.cls ≠ "java/lang/invoke/VarHandle" ∧ (parseMethodDescriptor yX9_init.desc).map (fun d => d.parameters.length) = some 1 := by decide +kernel
theorem moX9_3 : Cond.methodLink RX9 3 Lib.objectInit ∈ BIG := (tb1 (List.mem_of_getElem? (i := 167) rfl) rfl)
theorem ffX9_9 : FPF RX9 9 9 0 0 .int := ⟨RX9, TX9, 3, tyX9, rfl, by decide, rfl, rfl, inBX9, lkX9_9, tyX9_ok, nmX9, rfl, rfl, rfl⟩
theorem ffX9_15 : FPF RX9 15 9 1 2 (.array .int) := ⟨RX9, TX9, 3, tyX9, rfl, by decide, rfl, rfl, inBX9, lkX9_15, tyX9_ok, nmX9, rfl, rfl, rfl⟩
abbrev nlX9_init_6 (ca : Nat → Nat)  (a : Nat → Nat) : va_W := [((a 0), .inr (9, [.int (6 : Int32), .ref (a 1), .int 0])), ((a 1), .inl (ca 0, 18, .inl (fun _ => 0)))]
abbrev rmcX9_init_6 : Room := { frames := 1, cells := 1, slots := 18, locals := 20 }
set_option maxHeartbeats 4000000 in
set_option maxRecDepth 100000 in
theorem ccX9_init_6 {l : Launch} {D : va_G} {ca : Nat → ClassId} (h0 : Nat)  : CC l D ca yX9_init cwX9_init rmcX9_init_6 [.ref h0, .int (6 : Int32)] [(h0, .inr (9, [.int 0, .null, .int 0]))] h0 (nlX9_init_6 ca ) 1 18 := by
  refine startC (by decide) rfl (Nat.le_of_ble_eq_true rfl) ?_
  intro p e s mm args below meth c ls X hin hr hP hD hS hl
  have X : CXc p s mm args meth c cX9_init 2 RX9 D ca (va_A [(h0, .inr (9, [.int 0, .null, .int 0]))] s.heap.size) := X
  have hx := X.1
  have hb := X.2.1
  have hl : lv_has ls 2 [(0, .ref h0), (1, .int (6 : Int32))] := hl
  refine lv_aload_n hx hb dX9_init_0 rfl (lv_at hl 0 rfl) ?_
  refine xObj X moX9_3 hl.1 dX9_init_1 (Nat.le_of_ble_eq_true rfl) (Nat.le_of_ble_eq_true rfl) ?_
  refine lv_aload_n hx hb dX9_init_4 rfl (lv_at hl 0 rfl) ?_
  refine lv_iload_n hx hb dX9_init_5 rfl (lv_at hl 1 rfl) ?_
  refine lv_if_ge (tgt := 13) hx hb dX9_init_6 (by decide) (fun _ => ?_) (fun cq => absurd (by decide) cq)
  refine lv_iload_n hx hb dX9_init_13 rfl (lv_at hl 1 rfl) ?_
  refine xPutF X hin hP hD hS ffX9_9 0 rfl rfl rfl (Nat.le_of_ble_eq_true rfl) dX9_init_14 (fun H locs hP hD hS => ?_)
  have hP : va_P D clsL [(h0, .inr (9, [.int (6 : Int32), .null, .int 0]))] H := hP
  have hD : va_D (va_A [(h0, .inr (9, [.int 0, .null, .int 0]))] s.heap.size) [(h0, .inr (9, [.int (6 : Int32), .null, .int 0]))] := hD
  refine lv_aload_n hx hb dX9_init_17 rfl (lv_at hl 0 rfl) ?_
  refine lv_iconst (v := (3 : Int32)) hx hb dX9_init_18 (by decide) ?_
  refine lv_aload_n hx hb dX9_init_19 rfl (lv_at hl 0 rfl) ?_
  refine xGet (v := .int (6 : Int32)) X hP fdX9_9 0 rfl rfl dX9_init_20 ?_
  refine lv_imul hx hb dX9_init_23 ?_
  refine lv_topi (fun zz ez => ?_)
  have ez : zz = (18 : Int32) := by rw [ez]; decide
  subst ez
  refine xNewI (N' := 18) X hP hD hS (by decide) (by decide) (Nat.le_of_ble_eq_true rfl) (Nat.le_of_ble_eq_true rfl) (Nat.le_of_ble_eq_true rfl) dX9_init_24 (fun q1 H hP hD hS => ?_)
  have hP : va_P D clsL [(h0, .inr (9, [.int (6 : Int32), .null, .int 0])), (q1, .inl (ca 0, 18, .inl (fun _ => 0)))] H := hP
  have hD : va_D (va_A [(h0, .inr (9, [.int 0, .null, .int 0]))] s.heap.size) [(h0, .inr (9, [.int (6 : Int32), .null, .int 0])), (q1, .inl (ca 0, 18, .inl (fun _ => 0)))] := hD
  refine W.widen (k := 1) (n := 18) (Nat.le_of_ble_eq_true rfl) (Nat.le_of_ble_eq_true rfl) ?_
  refine xPutF X hin hP hD hS ffX9_15 0 rfl rfl rfl (Nat.le_of_ble_eq_true rfl) dX9_init_26 (fun H locs hP hD hS => ?_)
  have hP : va_P D clsL [(h0, .inr (9, [.int (6 : Int32), .ref q1, .int 0])), (q1, .inl (ca 0, 18, .inl (fun _ => 0)))] H := hP
  have hD : va_D (va_A [(h0, .inr (9, [.int 0, .null, .int 0]))] s.heap.size) [(h0, .inr (9, [.int (6 : Int32), .ref q1, .int 0])), (q1, .inl (ca 0, 18, .inl (fun _ => 0)))] := hD
  exact xRet X hr (fun i => [h0, q1].getD i 0) rfl hP hD hS dX9_init_29
abbrev nlX9_init_8 (ca : Nat → Nat)  (a : Nat → Nat) : va_W := [((a 0), .inr (9, [.int (8 : Int32), .ref (a 1), .int 0])), ((a 1), .inl (ca 0, 24, .inl (fun _ => 0)))]
abbrev rmcX9_init_8 : Room := { frames := 1, cells := 1, slots := 24, locals := 20 }
set_option maxHeartbeats 4000000 in
set_option maxRecDepth 100000 in
theorem ccX9_init_8 {l : Launch} {D : va_G} {ca : Nat → ClassId} (h0 : Nat)  : CC l D ca yX9_init cwX9_init rmcX9_init_8 [.ref h0, .int (8 : Int32)] [(h0, .inr (9, [.int 0, .null, .int 0]))] h0 (nlX9_init_8 ca ) 1 24 := by
  refine startC (by decide) rfl (Nat.le_of_ble_eq_true rfl) ?_
  intro p e s mm args below meth c ls X hin hr hP hD hS hl
  have X : CXc p s mm args meth c cX9_init 2 RX9 D ca (va_A [(h0, .inr (9, [.int 0, .null, .int 0]))] s.heap.size) := X
  have hx := X.1
  have hb := X.2.1
  have hl : lv_has ls 2 [(0, .ref h0), (1, .int (8 : Int32))] := hl
  refine lv_aload_n hx hb dX9_init_0 rfl (lv_at hl 0 rfl) ?_
  refine xObj X moX9_3 hl.1 dX9_init_1 (Nat.le_of_ble_eq_true rfl) (Nat.le_of_ble_eq_true rfl) ?_
  refine lv_aload_n hx hb dX9_init_4 rfl (lv_at hl 0 rfl) ?_
  refine lv_iload_n hx hb dX9_init_5 rfl (lv_at hl 1 rfl) ?_
  refine lv_if_ge (tgt := 13) hx hb dX9_init_6 (by decide) (fun _ => ?_) (fun cq => absurd (by decide) cq)
  refine lv_iload_n hx hb dX9_init_13 rfl (lv_at hl 1 rfl) ?_
  refine xPutF X hin hP hD hS ffX9_9 0 rfl rfl rfl (Nat.le_of_ble_eq_true rfl) dX9_init_14 (fun H locs hP hD hS => ?_)
  have hP : va_P D clsL [(h0, .inr (9, [.int (8 : Int32), .null, .int 0]))] H := hP
  have hD : va_D (va_A [(h0, .inr (9, [.int 0, .null, .int 0]))] s.heap.size) [(h0, .inr (9, [.int (8 : Int32), .null, .int 0]))] := hD
  refine lv_aload_n hx hb dX9_init_17 rfl (lv_at hl 0 rfl) ?_
  refine lv_iconst (v := (3 : Int32)) hx hb dX9_init_18 (by decide) ?_
  refine lv_aload_n hx hb dX9_init_19 rfl (lv_at hl 0 rfl) ?_
  refine xGet (v := .int (8 : Int32)) X hP fdX9_9 0 rfl rfl dX9_init_20 ?_
  refine lv_imul hx hb dX9_init_23 ?_
  refine lv_topi (fun zz ez => ?_)
  have ez : zz = (24 : Int32) := by rw [ez]; decide
  subst ez
  refine xNewI (N' := 24) X hP hD hS (by decide) (by decide) (Nat.le_of_ble_eq_true rfl) (Nat.le_of_ble_eq_true rfl) (Nat.le_of_ble_eq_true rfl) dX9_init_24 (fun q1 H hP hD hS => ?_)
  have hP : va_P D clsL [(h0, .inr (9, [.int (8 : Int32), .null, .int 0])), (q1, .inl (ca 0, 24, .inl (fun _ => 0)))] H := hP
  have hD : va_D (va_A [(h0, .inr (9, [.int 0, .null, .int 0]))] s.heap.size) [(h0, .inr (9, [.int (8 : Int32), .null, .int 0])), (q1, .inl (ca 0, 24, .inl (fun _ => 0)))] := hD
  refine W.widen (k := 1) (n := 24) (Nat.le_of_ble_eq_true rfl) (Nat.le_of_ble_eq_true rfl) ?_
  refine xPutF X hin hP hD hS ffX9_15 0 rfl rfl rfl (Nat.le_of_ble_eq_true rfl) dX9_init_26 (fun H locs hP hD hS => ?_)
  have hP : va_P D clsL [(h0, .inr (9, [.int (8 : Int32), .ref q1, .int 0])), (q1, .inl (ca 0, 24, .inl (fun _ => 0)))] H := hP
  have hD : va_D (va_A [(h0, .inr (9, [.int 0, .null, .int 0]))] s.heap.size) [(h0, .inr (9, [.int (8 : Int32), .ref q1, .int 0])), (q1, .inl (ca 0, 24, .inl (fun _ => 0)))] := hD
  exact xRet X hr (fun i => [h0, q1].getD i 0) rfl hP hD hS dX9_init_29
abbrev nlX9_init_10 (ca : Nat → Nat)  (a : Nat → Nat) : va_W := [((a 0), .inr (9, [.int (10 : Int32), .ref (a 1), .int 0])), ((a 1), .inl (ca 0, 30, .inl (fun _ => 0)))]
abbrev rmcX9_init_10 : Room := { frames := 1, cells := 1, slots := 30, locals := 20 }
set_option maxHeartbeats 4000000 in
set_option maxRecDepth 100000 in
theorem ccX9_init_10 {l : Launch} {D : va_G} {ca : Nat → ClassId} (h0 : Nat)  : CC l D ca yX9_init cwX9_init rmcX9_init_10 [.ref h0, .int (10 : Int32)] [(h0, .inr (9, [.int 0, .null, .int 0]))] h0 (nlX9_init_10 ca ) 1 30 := by
  refine startC (by decide) rfl (Nat.le_of_ble_eq_true rfl) ?_
  intro p e s mm args below meth c ls X hin hr hP hD hS hl
  have X : CXc p s mm args meth c cX9_init 2 RX9 D ca (va_A [(h0, .inr (9, [.int 0, .null, .int 0]))] s.heap.size) := X
  have hx := X.1
  have hb := X.2.1
  have hl : lv_has ls 2 [(0, .ref h0), (1, .int (10 : Int32))] := hl
  refine lv_aload_n hx hb dX9_init_0 rfl (lv_at hl 0 rfl) ?_
  refine xObj X moX9_3 hl.1 dX9_init_1 (Nat.le_of_ble_eq_true rfl) (Nat.le_of_ble_eq_true rfl) ?_
  refine lv_aload_n hx hb dX9_init_4 rfl (lv_at hl 0 rfl) ?_
  refine lv_iload_n hx hb dX9_init_5 rfl (lv_at hl 1 rfl) ?_
  refine lv_if_ge (tgt := 13) hx hb dX9_init_6 (by decide) (fun _ => ?_) (fun cq => absurd (by decide) cq)
  refine lv_iload_n hx hb dX9_init_13 rfl (lv_at hl 1 rfl) ?_
  refine xPutF X hin hP hD hS ffX9_9 0 rfl rfl rfl (Nat.le_of_ble_eq_true rfl) dX9_init_14 (fun H locs hP hD hS => ?_)
  have hP : va_P D clsL [(h0, .inr (9, [.int (10 : Int32), .null, .int 0]))] H := hP
  have hD : va_D (va_A [(h0, .inr (9, [.int 0, .null, .int 0]))] s.heap.size) [(h0, .inr (9, [.int (10 : Int32), .null, .int 0]))] := hD
  refine lv_aload_n hx hb dX9_init_17 rfl (lv_at hl 0 rfl) ?_
  refine lv_iconst (v := (3 : Int32)) hx hb dX9_init_18 (by decide) ?_
  refine lv_aload_n hx hb dX9_init_19 rfl (lv_at hl 0 rfl) ?_
  refine xGet (v := .int (10 : Int32)) X hP fdX9_9 0 rfl rfl dX9_init_20 ?_
  refine lv_imul hx hb dX9_init_23 ?_
  refine lv_topi (fun zz ez => ?_)
  have ez : zz = (30 : Int32) := by rw [ez]; decide
  subst ez
  refine xNewI (N' := 30) X hP hD hS (by decide) (by decide) (Nat.le_of_ble_eq_true rfl) (Nat.le_of_ble_eq_true rfl) (Nat.le_of_ble_eq_true rfl) dX9_init_24 (fun q1 H hP hD hS => ?_)
  have hP : va_P D clsL [(h0, .inr (9, [.int (10 : Int32), .null, .int 0])), (q1, .inl (ca 0, 30, .inl (fun _ => 0)))] H := hP
  have hD : va_D (va_A [(h0, .inr (9, [.int 0, .null, .int 0]))] s.heap.size) [(h0, .inr (9, [.int (10 : Int32), .null, .int 0])), (q1, .inl (ca 0, 30, .inl (fun _ => 0)))] := hD
  refine W.widen (k := 1) (n := 30) (Nat.le_of_ble_eq_true rfl) (Nat.le_of_ble_eq_true rfl) ?_
  refine xPutF X hin hP hD hS ffX9_15 0 rfl rfl rfl (Nat.le_of_ble_eq_true rfl) dX9_init_26 (fun H locs hP hD hS => ?_)
  have hP : va_P D clsL [(h0, .inr (9, [.int (10 : Int32), .ref q1, .int 0])), (q1, .inl (ca 0, 30, .inl (fun _ => 0)))] H := hP
  have hD : va_D (va_A [(h0, .inr (9, [.int 0, .null, .int 0]))] s.heap.size) [(h0, .inr (9, [.int (10 : Int32), .ref q1, .int 0])), (q1, .inl (ca 0, 30, .inl (fun _ => 0)))] := hD
  exact xRet X hr (fun i => [h0, q1].getD i 0) rfl hP hD hS dX9_init_29
abbrev nlX9_init_12 (ca : Nat → Nat)  (a : Nat → Nat) : va_W := [((a 0), .inr (9, [.int (12 : Int32), .ref (a 1), .int 0])), ((a 1), .inl (ca 0, 36, .inl (fun _ => 0)))]
abbrev rmcX9_init_12 : Room := { frames := 1, cells := 1, slots := 36, locals := 20 }
set_option maxHeartbeats 4000000 in
set_option maxRecDepth 100000 in
theorem ccX9_init_12 {l : Launch} {D : va_G} {ca : Nat → ClassId} (h0 : Nat)  : CC l D ca yX9_init cwX9_init rmcX9_init_12 [.ref h0, .int (12 : Int32)] [(h0, .inr (9, [.int 0, .null, .int 0]))] h0 (nlX9_init_12 ca ) 1 36 := by
  refine startC (by decide) rfl (Nat.le_of_ble_eq_true rfl) ?_
  intro p e s mm args below meth c ls X hin hr hP hD hS hl
  have X : CXc p s mm args meth c cX9_init 2 RX9 D ca (va_A [(h0, .inr (9, [.int 0, .null, .int 0]))] s.heap.size) := X
  have hx := X.1
  have hb := X.2.1
  have hl : lv_has ls 2 [(0, .ref h0), (1, .int (12 : Int32))] := hl
  refine lv_aload_n hx hb dX9_init_0 rfl (lv_at hl 0 rfl) ?_
  refine xObj X moX9_3 hl.1 dX9_init_1 (Nat.le_of_ble_eq_true rfl) (Nat.le_of_ble_eq_true rfl) ?_
  refine lv_aload_n hx hb dX9_init_4 rfl (lv_at hl 0 rfl) ?_
  refine lv_iload_n hx hb dX9_init_5 rfl (lv_at hl 1 rfl) ?_
  refine lv_if_ge (tgt := 13) hx hb dX9_init_6 (by decide) (fun _ => ?_) (fun cq => absurd (by decide) cq)
  refine lv_iload_n hx hb dX9_init_13 rfl (lv_at hl 1 rfl) ?_
  refine xPutF X hin hP hD hS ffX9_9 0 rfl rfl rfl (Nat.le_of_ble_eq_true rfl) dX9_init_14 (fun H locs hP hD hS => ?_)
  have hP : va_P D clsL [(h0, .inr (9, [.int (12 : Int32), .null, .int 0]))] H := hP
  have hD : va_D (va_A [(h0, .inr (9, [.int 0, .null, .int 0]))] s.heap.size) [(h0, .inr (9, [.int (12 : Int32), .null, .int 0]))] := hD
  refine lv_aload_n hx hb dX9_init_17 rfl (lv_at hl 0 rfl) ?_
  refine lv_iconst (v := (3 : Int32)) hx hb dX9_init_18 (by decide) ?_
  refine lv_aload_n hx hb dX9_init_19 rfl (lv_at hl 0 rfl) ?_
  refine xGet (v := .int (12 : Int32)) X hP fdX9_9 0 rfl rfl dX9_init_20 ?_
  refine lv_imul hx hb dX9_init_23 ?_
  refine lv_topi (fun zz ez => ?_)
  have ez : zz = (36 : Int32) := by rw [ez]; decide
  subst ez
  refine xNewI (N' := 36) X hP hD hS (by decide) (by decide) (Nat.le_of_ble_eq_true rfl) (Nat.le_of_ble_eq_true rfl) (Nat.le_of_ble_eq_true rfl) dX9_init_24 (fun q1 H hP hD hS => ?_)
  have hP : va_P D clsL [(h0, .inr (9, [.int (12 : Int32), .null, .int 0])), (q1, .inl (ca 0, 36, .inl (fun _ => 0)))] H := hP
  have hD : va_D (va_A [(h0, .inr (9, [.int 0, .null, .int 0]))] s.heap.size) [(h0, .inr (9, [.int (12 : Int32), .null, .int 0])), (q1, .inl (ca 0, 36, .inl (fun _ => 0)))] := hD
  refine W.widen (k := 1) (n := 36) (Nat.le_of_ble_eq_true rfl) (Nat.le_of_ble_eq_true rfl) ?_
  refine xPutF X hin hP hD hS ffX9_15 0 rfl rfl rfl (Nat.le_of_ble_eq_true rfl) dX9_init_26 (fun H locs hP hD hS => ?_)
  have hP : va_P D clsL [(h0, .inr (9, [.int (12 : Int32), .ref q1, .int 0])), (q1, .inl (ca 0, 36, .inl (fun _ => 0)))] H := hP
  have hD : va_D (va_A [(h0, .inr (9, [.int 0, .null, .int 0]))] s.heap.size) [(h0, .inr (9, [.int (12 : Int32), .ref q1, .int 0])), (q1, .inl (ca 0, 36, .inl (fun _ => 0)))] := hD
  exact xRet X hr (fun i => [h0, q1].getD i 0) rfl hP hD hS dX9_init_29
abbrev cwX6_init : Cond := .code yX6_init cX6_init 1 none
theorem cmX6_init : cwX6_init ∈ BIG := (tb1 (List.mem_of_getElem? (i := 160) rfl) rfl)
theorem pdX6_init : yX6_init.cls ≠ "java/lang/invoke/MethodHandle" ∧ yX6_init.cls ≠ "java/lang/invoke/VarHandle" ∧ (parseMethodDescriptor yX6_init.desc).map (fun d => d.parameters.length) = some 0 := by decide +kernel
theorem moX6_3 : Cond.methodLink RX6 3 Lib.objectInit ∈ BIG := (tb1 (List.mem_of_getElem? (i := 161) rfl) rfl)
theorem nwX6_9 : NW RX6 9 9 [.int 0, .null, .int 0] 3 := ⟨RX9, TX9, tyX9, rfl, inBX9, tyX9_ok, (tb1 (List.mem_of_getElem? (i := 162) rfl) rfl), (tb1 (List.mem_of_getElem? (i := 163) rfl) rfl), (tb1 (List.mem_of_getElem? (i := 9) rfl) rfl), fun j hj => by
  match j, hj with
  | 0, _ => rfl
  | 1, _ => rfl
  | 2, _ => rfl
  | j + 3, hj => exact absurd hj (by omega)⟩
theorem miX6_11 : MI RX6 11 yX9_init cwX9_init 1 := ⟨(tb1 (List.mem_of_getElem? (i := 164) rfl) rfl), (tb1 (List.mem_of_getElem? (i := 165) rfl) rfl), (tb1 (List.mem_of_getElem? (i := 9) rfl) rfl), cmX9_init, rfl, pdX9_init⟩
theorem ffX6_14 : FPF RX6 14 6 0 2 (.object RX9) := ⟨RX6, TX6, 11, tyX6, rfl, by decide, rfl, rfl, inBX6, lkX6_14, tyX6_ok, nmX6, rfl, rfl, rfl⟩
theorem ffX6_20 : FPF RX6 20 6 1 2 (.object RX9) := ⟨RX6, TX6, 11, tyX6, rfl, by decide, rfl, rfl, inBX6, lkX6_20, tyX6_ok, nmX6, rfl, rfl, rfl⟩
theorem ffX6_23 : FPF RX6 23 6 2 2 (.object RX9) := ⟨RX6, TX6, 11, tyX6, rfl, by decide, rfl, rfl, inBX6, lkX6_23, tyX6_ok, nmX6, rfl, rfl, rfl⟩
theorem ffX6_26 : FPF RX6 26 6 3 2 (.object RX9) := ⟨RX6, TX6, 11, tyX6, rfl, by decide, rfl, rfl, inBX6, lkX6_26, tyX6_ok, nmX6, rfl, rfl, rfl⟩
theorem ffX6_29 : FPF RX6 29 6 4 2 (.object RX9) := ⟨RX6, TX6, 11, tyX6, rfl, by decide, rfl, rfl, inBX6, lkX6_29, tyX6_ok, nmX6, rfl, rfl, rfl⟩
theorem nwX6_32 : NW RX6 32 3 [.null, .null, .null, .null, .null, .null, .int 0, .int 0] 8 := ⟨RX3, TX3, tyX3, rfl, inBX3, tyX3_ok, (tb1 (List.mem_of_getElem? (i := 183) rfl) rfl), (tb1 (List.mem_of_getElem? (i := 184) rfl) rfl), (tb1 (List.mem_of_getElem? (i := 10) rfl) rfl), fun j hj => by
  match j, hj with
  | 0, _ => rfl
  | 1, _ => rfl
  | 2, _ => rfl
  | 3, _ => rfl
  | 4, _ => rfl
  | 5, _ => rfl
  | 6, _ => rfl
  | 7, _ => rfl
  | j + 8, hj => exact absurd hj (by omega)⟩
theorem miX6_34 : MI RX6 34 yX3_init cwX3_init 0 := ⟨(tb1 (List.mem_of_getElem? (i := 185) rfl) rfl), (tb1 (List.mem_of_getElem? (i := 186) rfl) rfl), (tb1 (List.mem_of_getElem? (i := 10) rfl) rfl), cmX3_init, rfl, pdX3_init⟩
theorem ffX6_35 : FPF RX6 35 6 5 2 (.object RX3) := ⟨RX6, TX6, 11, tyX6, rfl, by decide, rfl, rfl, inBX6, lkX6_35, tyX6_ok, nmX6, rfl, rfl, rfl⟩
abbrev nlX6_init (ca : Nat → Nat)  (a : Nat → Nat) : va_W := [((a 0), .inr (6, [.ref (a 1), .ref (a 3), .ref (a 5), .ref (a 7), .ref (a 9), .ref (a 11), .int (100 : Int32), .int 0, .int 0, .int 0, .int 0])), ((a 1), .inr (9, [.int (6 : Int32), .ref (a 2), .int 0])), ((a 2), .inl (ca 0, 18, .inl (fun _ => 0))), ((a 3), .inr (9, [.int (6 : Int32), .ref (a 4), .int 0])), ((a 4), .inl (ca 0, 18, .inl (fun _ => 0))), ((a 5), .inr (9, [.int (12 : Int32), .ref (a 6), .int 0])), ((a 6), .inl (ca 0, 36, .inl (fun _ => 0))), ((a 7), .inr (9, [.int (10 : Int32), .ref (a 8), .int 0])), ((a 8), .inl (ca 0, 30, .inl (fun _ => 0))), ((a 9), .inr (9, [.int (8 : Int32), .ref (a 10), .int 0])), ((a 10), .inl (ca 0, 24, .inl (fun _ => 0))), ((a 11), .inr (3, [.ref (a 12), .ref (a 13), .ref (a 14), .ref (a 15), .ref (a 16), .ref (a 17), .int 0, .int 0])), ((a 12), .inl (ca 0, 64, .inl (fun _ => 0))), ((a 13), .inl (ca 0, 64, .inl (fun _ => 0))), ((a 14), .inl (ca 0, 3, .inl (fun _ => 0))), ((a 15), .inl (ca 0, 3, .inl (fun _ => 0))), ((a 16), .inl (ca 3, 7, .inr (.inl (fun _ => 0)))), ((a 17), .inl (ca 3, 64, .inr (.inl (fun _ => 0))))]
abbrev rmcX6_init : Room := { frames := 2, cells := 17, slots := 354, locals := 41 }
set_option maxHeartbeats 4000000 in
set_option maxRecDepth 100000 in
theorem ccX6_init {l : Launch} {D : va_G} {ca : Nat → ClassId} (h0 : Nat)  : CC l D ca yX6_init cwX6_init rmcX6_init [.ref h0] [(h0, .inr (6, [.null, .null, .null, .null, .null, .null, .int 0, .int 0, .int 0, .int 0, .int 0]))] h0 (nlX6_init ca ) 17 354 := by
  refine startC (by decide) rfl (Nat.le_of_ble_eq_true rfl) ?_
  intro p e s mm args below meth c ls X hin hr hP hD hS hl
  have X : CXc p s mm args meth c cX6_init 1 RX6 D ca (va_A [(h0, .inr (6, [.null, .null, .null, .null, .null, .null, .int 0, .int 0, .int 0, .int 0, .int 0]))] s.heap.size) := X
  have hx := X.1
  have hb := X.2.1
  have hl : lv_has ls 1 [(0, .ref h0)] := hl
  refine lv_aload_n hx hb dX6_init_0 rfl (lv_at hl 0 rfl) ?_
  refine xObj X moX6_3 hl.1 dX6_init_1 (Nat.le_of_ble_eq_true rfl) (Nat.le_of_ble_eq_true rfl) ?_
  refine lv_aload_n hx hb dX6_init_4 rfl (lv_at hl 0 rfl) ?_
  refine xNew X hP hD hS nwX6_9 (Nat.le_of_ble_eq_true rfl) (Nat.le_of_ble_eq_true rfl) dX6_init_5 (fun q1 H hP hD hS => ?_)
  have hP : va_P D clsL [(h0, .inr (6, [.null, .null, .null, .null, .null, .null, .int 0, .int 0, .int 0, .int 0, .int 0])), (q1, .inr (9, [.int 0, .null, .int 0]))] H := hP
  have hD : va_D (va_A [(h0, .inr (6, [.null, .null, .null, .null, .null, .null, .int 0, .int 0, .int 0, .int 0, .int 0]))] s.heap.size) [(h0, .inr (6, [.null, .null, .null, .null, .null, .null, .int 0, .int 0, .int 0, .int 0, .int 0])), (q1, .inr (9, [.int 0, .null, .int 0]))] := hD
  refine W.widen (k := 1) (n := 3) (Nat.le_of_ble_eq_true rfl) (Nat.le_of_ble_eq_true rfl) ?_
  refine lv_dup hx hb dX6_init_8 rfl ?_
  refine lv_bipush (v := (6 : Int32)) hx hb dX6_init_9 (by decide) ?_
  refine callC (wc := [(q1, .inr (9, [.int 0, .null, .int 0]))]) (wr := [(h0, .inr (6, [.null, .null, .null, .null, .null, .null, .int 0, .int 0, .int 0, .int 0, .int 0]))]) X hP hD hS (ccX9_init_6 q1 ) miX6_11 [1] [0] rfl rfl (by decide) (by decide) (by decide) ⟨rfl, rfl⟩ ⟨Nat.le_of_ble_eq_true rfl, Nat.le_of_ble_eq_true rfl⟩ rfl hl.1 rfl (Nat.le_of_ble_eq_true rfl) dX6_init_11 ⟨Nat.le_of_ble_eq_true rfl, Nat.le_of_ble_eq_true rfl⟩ (fun a2 H locs ea2 hP hD hS => ?_)
  have hP : va_P D clsL [(h0, .inr (6, [.null, .null, .null, .null, .null, .null, .int 0, .int 0, .int 0, .int 0, .int 0])), ((a2 0), .inr (9, [.int (6 : Int32), .ref (a2 1), .int 0])), ((a2 1), .inl (ca 0, 18, .inl (fun _ => 0)))] H := hP
  have hD : va_D (va_A [(h0, .inr (6, [.null, .null, .null, .null, .null, .null, .int 0, .int 0, .int 0, .int 0, .int 0]))] s.heap.size) [(h0, .inr (6, [.null, .null, .null, .null, .null, .null, .int 0, .int 0, .int 0, .int 0, .int 0])), ((a2 0), .inr (9, [.int (6 : Int32), .ref (a2 1), .int 0])), ((a2 1), .inl (ca 0, 18, .inl (fun _ => 0)))] := hD
  rw [ea2] at hP hD
  refine W.widen (k := 2) (n := 21) (Nat.le_of_ble_eq_true rfl) (Nat.le_of_ble_eq_true rfl) ?_
  refine xPutF X hin hP hD hS ffX6_14 0 rfl rfl rfl (Nat.le_of_ble_eq_true rfl) dX6_init_14 (fun H locs hP hD hS => ?_)
  have hP : va_P D clsL [(h0, .inr (6, [.ref q1, .null, .null, .null, .null, .null, .int 0, .int 0, .int 0, .int 0, .int 0])), (q1, .inr (9, [.int (6 : Int32), .ref (a2 1), .int 0])), ((a2 1), .inl (ca 0, 18, .inl (fun _ => 0)))] H := hP
  have hD : va_D (va_A [(h0, .inr (6, [.null, .null, .null, .null, .null, .null, .int 0, .int 0, .int 0, .int 0, .int 0]))] s.heap.size) [(h0, .inr (6, [.ref q1, .null, .null, .null, .null, .null, .int 0, .int 0, .int 0, .int 0, .int 0])), (q1, .inr (9, [.int (6 : Int32), .ref (a2 1), .int 0])), ((a2 1), .inl (ca 0, 18, .inl (fun _ => 0)))] := hD
  refine lv_aload_n hx hb dX6_init_17 rfl (lv_at hl 0 rfl) ?_
  refine xNew X hP hD hS nwX6_9 (Nat.le_of_ble_eq_true rfl) (Nat.le_of_ble_eq_true rfl) dX6_init_18 (fun q3 H hP hD hS => ?_)
  have hP : va_P D clsL [(h0, .inr (6, [.ref q1, .null, .null, .null, .null, .null, .int 0, .int 0, .int 0, .int 0, .int 0])), (q1, .inr (9, [.int (6 : Int32), .ref (a2 1), .int 0])), ((a2 1), .inl (ca 0, 18, .inl (fun _ => 0))), (q3, .inr (9, [.int 0, .null, .int 0]))] H := hP
  have hD : va_D (va_A [(h0, .inr (6, [.null, .null, .null, .null, .null, .null, .int 0, .int 0, .int 0, .int 0, .int 0]))] s.heap.size) [(h0, .inr (6, [.ref q1, .null, .null, .null, .null, .null, .int 0, .int 0, .int 0, .int 0, .int 0])), (q1, .inr (9, [.int (6 : Int32), .ref (a2 1), .int 0])), ((a2 1), .inl (ca 0, 18, .inl (fun _ => 0))), (q3, .inr (9, [.int 0, .null, .int 0]))] := hD
  refine W.widen (k := 3) (n := 24) (Nat.le_of_ble_eq_true rfl) (Nat.le_of_ble_eq_true rfl) ?_
  refine lv_dup hx hb dX6_init_21 rfl ?_
  refine lv_bipush (v := (6 : Int32)) hx hb dX6_init_22 (by decide) ?_
  refine callC (wc := [(q3, .inr (9, [.int 0, .null, .int 0]))]) (wr := [(h0, .inr (6, [.ref q1, .null, .null, .null, .null, .null, .int 0, .int 0, .int 0, .int 0, .int 0])), (q1, .inr (9, [.int (6 : Int32), .ref (a2 1), .int 0])), ((a2 1), .inl (ca 0, 18, .inl (fun _ => 0)))]) X hP hD hS (ccX9_init_6 q3 ) miX6_11 [3] [0, 1, 2] rfl rfl (by decide) (by decide) (by decide) ⟨rfl, rfl⟩ ⟨Nat.le_of_ble_eq_true rfl, Nat.le_of_ble_eq_true rfl⟩ rfl hl.1 rfl (Nat.le_of_ble_eq_true rfl) dX6_init_24 ⟨Nat.le_of_ble_eq_true rfl, Nat.le_of_ble_eq_true rfl⟩ (fun a4 H locs ea4 hP hD hS => ?_)
  have hP : va_P D clsL [(h0, .inr (6, [.ref q1, .null, .null, .null, .null, .null, .int 0, .int 0, .int 0, .int 0, .int 0])), (q1, .inr (9, [.int (6 : Int32), .ref (a2 1), .int 0])), ((a2 1), .inl (ca 0, 18, .inl (fun _ => 0))), ((a4 0), .inr (9, [.int (6 : Int32), .ref (a4 1), .int 0])), ((a4 1), .inl (ca 0, 18, .inl (fun _ => 0)))] H := hP
  have hD : va_D (va_A [(h0, .inr (6, [.null, .null, .null, .null, .null, .null, .int 0, .int 0, .int 0, .int 0, .int 0]))] s.heap.size) [(h0, .inr (6, [.ref q1, .null, .null, .null, .null, .null, .int 0, .int 0, .int 0, .int 0, .int 0])), (q1, .inr (9, [.int (6 : Int32), .ref (a2 1), .int 0])), ((a2 1), .inl (ca 0, 18, .inl (fun _ => 0))), ((a4 0), .inr (9, [.int (6 : Int32), .ref (a4 1), .int 0])), ((a4 1), .inl (ca 0, 18, .inl (fun _ => 0)))] := hD
  rw [ea4] at hP hD
  refine W.widen (k := 4) (n := 42) (Nat.le_of_ble_eq_true rfl) (Nat.le_of_ble_eq_true rfl) ?_
  refine xPutF X hin hP hD hS ffX6_20 0 rfl rfl rfl (Nat.le_of_ble_eq_true rfl) dX6_init_27 (fun H locs hP hD hS => ?_)
  have hP : va_P D clsL [(h0, .inr (6, [.ref q1, .ref q3, .null, .null, .null, .null, .int 0, .int 0, .int 0, .int 0, .int 0])), (q1, .inr (9, [.int (6 : Int32), .ref (a2 1), .int 0])), ((a2 1), .inl (ca 0, 18, .inl (fun _ => 0))), (q3, .inr (9, [.int (6 : Int32), .ref (a4 1), .int 0])), ((a4 1), .inl (ca 0, 18, .inl (fun _ => 0)))] H := hP
  have hD : va_D (va_A [(h0, .inr (6, [.null, .null, .null, .null, .null, .null, .int 0, .int 0, .int 0, .int 0, .int 0]))] s.heap.size) [(h0, .inr (6, [.ref q1, .ref q3, .null, .null, .null, .null, .int 0, .int 0, .int 0, .int 0, .int 0])), (q1, .inr (9, [.int (6 : Int32), .ref (a2 1), .int 0])), ((a2 1), .inl (ca 0, 18, .inl (fun _ => 0))), (q3, .inr (9, [.int (6 : Int32), .ref (a4 1), .int 0])), ((a4 1), .inl (ca 0, 18, .inl (fun _ => 0)))] := hD
  refine lv_aload_n hx hb dX6_init_30 rfl (lv_at hl 0 rfl) ?_
  refine xNew X hP hD hS nwX6_9 (Nat.le_of_ble_eq_true rfl) (Nat.le_of_ble_eq_true rfl) dX6_init_31 (fun q5 H hP hD hS => ?_)
  have hP : va_P D clsL [(h0, .inr (6, [.ref q1, .ref q3, .null, .null, .null, .null, .int 0, .int 0, .int 0, .int 0, .int 0])), (q1, .inr (9, [.int (6 : Int32), .ref (a2 1), .int 0])), ((a2 1), .inl (ca 0, 18, .inl (fun _ => 0))), (q3, .inr (9, [.int (6 : Int32), .ref (a4 1), .int 0])), ((a4 1), .inl (ca 0, 18, .inl (fun _ => 0))), (q5, .inr (9, [.int 0, .null, .int 0]))] H := hP
  have hD : va_D (va_A [(h0, .inr (6, [.null, .null, .null, .null, .null, .null, .int 0, .int 0, .int 0, .int 0, .int 0]))] s.heap.size) [(h0, .inr (6, [.ref q1, .ref q3, .null, .null, .null, .null, .int 0, .int 0, .int 0, .int 0, .int 0])), (q1, .inr (9, [.int (6 : Int32), .ref (a2 1), .int 0])), ((a2 1), .inl (ca 0, 18, .inl (fun _ => 0))), (q3, .inr (9, [.int (6 : Int32), .ref (a4 1), .int 0])), ((a4 1), .inl (ca 0, 18, .inl (fun _ => 0))), (q5, .inr (9, [.int 0, .null, .int 0]))] := hD
  refine W.widen (k := 5) (n := 45) (Nat.le_of_ble_eq_true rfl) (Nat.le_of_ble_eq_true rfl) ?_
  refine lv_dup hx hb dX6_init_34 rfl ?_
  refine lv_bipush (v := (12 : Int32)) hx hb dX6_init_35 (by decide) ?_
  refine callC (wc := [(q5, .inr (9, [.int 0, .null, .int 0]))]) (wr := [(h0, .inr (6, [.ref q1, .ref q3, .null, .null, .null, .null, .int 0, .int 0, .int 0, .int 0, .int 0])), (q1, .inr (9, [.int (6 : Int32), .ref (a2 1), .int 0])), ((a2 1), .inl (ca 0, 18, .inl (fun _ => 0))), (q3, .inr (9, [.int (6 : Int32), .ref (a4 1), .int 0])), ((a4 1), .inl (ca 0, 18, .inl (fun _ => 0)))]) X hP hD hS (ccX9_init_12 q5 ) miX6_11 [5] [0, 1, 2, 3, 4] rfl rfl (by decide) (by decide) (by decide) ⟨rfl, rfl⟩ ⟨Nat.le_of_ble_eq_true rfl, Nat.le_of_ble_eq_true rfl⟩ rfl hl.1 rfl (Nat.le_of_ble_eq_true rfl) dX6_init_37 ⟨Nat.le_of_ble_eq_true rfl, Nat.le_of_ble_eq_true rfl⟩ (fun a6 H locs ea6 hP hD hS => ?_)
  have hP : va_P D clsL [(h0, .inr (6, [.ref q1, .ref q3, .null, .null, .null, .null, .int 0, .int 0, .int 0, .int 0, .int 0])), (q1, .inr (9, [.int (6 : Int32), .ref (a2 1), .int 0])), ((a2 1), .inl (ca 0, 18, .inl (fun _ => 0))), (q3, .inr (9, [.int (6 : Int32), .ref (a4 1), .int 0])), ((a4 1), .inl (ca 0, 18, .inl (fun _ => 0))), ((a6 0), .inr (9, [.int (12 : Int32), .ref (a6 1), .int 0])), ((a6 1), .inl (ca 0, 36, .inl (fun _ => 0)))] H := hP
  have hD : va_D (va_A [(h0, .inr (6, [.null, .null, .null, .null, .null, .null, .int 0, .int 0, .int 0, .int 0, .int 0]))] s.heap.size) [(h0, .inr (6, [.ref q1, .ref q3, .null, .null, .null, .null, .int 0, .int 0, .int 0, .int 0, .int 0])), (q1, .inr (9, [.int (6 : Int32), .ref (a2 1), .int 0])), ((a2 1), .inl (ca 0, 18, .inl (fun _ => 0))), (q3, .inr (9, [.int (6 : Int32), .ref (a4 1), .int 0])), ((a4 1), .inl (ca 0, 18, .inl (fun _ => 0))), ((a6 0), .inr (9, [.int (12 : Int32), .ref (a6 1), .int 0])), ((a6 1), .inl (ca 0, 36, .inl (fun _ => 0)))] := hD
  rw [ea6] at hP hD
  refine W.widen (k := 6) (n := 81) (Nat.le_of_ble_eq_true rfl) (Nat.le_of_ble_eq_true rfl) ?_
  refine xPutF X hin hP hD hS ffX6_23 0 rfl rfl rfl (Nat.le_of_ble_eq_true rfl) dX6_init_40 (fun H locs hP hD hS => ?_)
  have hP : va_P D clsL [(h0, .inr (6, [.ref q1, .ref q3, .ref q5, .null, .null, .null, .int 0, .int 0, .int 0, .int 0, .int 0])), (q1, .inr (9, [.int (6 : Int32), .ref (a2 1), .int 0])), ((a2 1), .inl (ca 0, 18, .inl (fun _ => 0))), (q3, .inr (9, [.int (6 : Int32), .ref (a4 1), .int 0])), ((a4 1), .inl (ca 0, 18, .inl (fun _ => 0))), (q5, .inr (9, [.int (12 : Int32), .ref (a6 1), .int 0])), ((a6 1), .inl (ca 0, 36, .inl (fun _ => 0)))] H := hP
  have hD : va_D (va_A [(h0, .inr (6, [.null, .null, .null, .null, .null, .null, .int 0, .int 0, .int 0, .int 0, .int 0]))] s.heap.size) [(h0, .inr (6, [.ref q1, .ref q3, .ref q5, .null, .null, .null, .int 0, .int 0, .int 0, .int 0, .int 0])), (q1, .inr (9, [.int (6 : Int32), .ref (a2 1), .int 0])), ((a2 1), .inl (ca 0, 18, .inl (fun _ => 0))), (q3, .inr (9, [.int (6 : Int32), .ref (a4 1), .int 0])), ((a4 1), .inl (ca 0, 18, .inl (fun _ => 0))), (q5, .inr (9, [.int (12 : Int32), .ref (a6 1), .int 0])), ((a6 1), .inl (ca 0, 36, .inl (fun _ => 0)))] := hD
  refine lv_aload_n hx hb dX6_init_43 rfl (lv_at hl 0 rfl) ?_
  refine xNew X hP hD hS nwX6_9 (Nat.le_of_ble_eq_true rfl) (Nat.le_of_ble_eq_true rfl) dX6_init_44 (fun q7 H hP hD hS => ?_)
  have hP : va_P D clsL [(h0, .inr (6, [.ref q1, .ref q3, .ref q5, .null, .null, .null, .int 0, .int 0, .int 0, .int 0, .int 0])), (q1, .inr (9, [.int (6 : Int32), .ref (a2 1), .int 0])), ((a2 1), .inl (ca 0, 18, .inl (fun _ => 0))), (q3, .inr (9, [.int (6 : Int32), .ref (a4 1), .int 0])), ((a4 1), .inl (ca 0, 18, .inl (fun _ => 0))), (q5, .inr (9, [.int (12 : Int32), .ref (a6 1), .int 0])), ((a6 1), .inl (ca 0, 36, .inl (fun _ => 0))), (q7, .inr (9, [.int 0, .null, .int 0]))] H := hP
  have hD : va_D (va_A [(h0, .inr (6, [.null, .null, .null, .null, .null, .null, .int 0, .int 0, .int 0, .int 0, .int 0]))] s.heap.size) [(h0, .inr (6, [.ref q1, .ref q3, .ref q5, .null, .null, .null, .int 0, .int 0, .int 0, .int 0, .int 0])), (q1, .inr (9, [.int (6 : Int32), .ref (a2 1), .int 0])), ((a2 1), .inl (ca 0, 18, .inl (fun _ => 0))), (q3, .inr (9, [.int (6 : Int32), .ref (a4 1), .int 0])), ((a4 1), .inl (ca 0, 18, .inl (fun _ => 0))), (q5, .inr (9, [.int (12 : Int32), .ref (a6 1), .int 0])), ((a6 1), .inl (ca 0, 36, .inl (fun _ => 0))), (q7, .inr (9, [.int 0, .null, .int 0]))] := hD
  refine W.widen (k := 7) (n := 84) (Nat.le_of_ble_eq_true rfl) (Nat.le_of_ble_eq_true rfl) ?_
  refine lv_dup hx hb dX6_init_47 rfl ?_
  refine lv_bipush (v := (10 : Int32)) hx hb dX6_init_48 (by decide) ?_
  refine callC (wc := [(q7, .inr (9, [.int 0, .null, .int 0]))]) (wr := [(h0, .inr (6, [.ref q1, .ref q3, .ref q5, .null, .null, .null, .int 0, .int 0, .int 0, .int 0, .int 0])), (q1, .inr (9, [.int (6 : Int32), .ref (a2 1), .int 0])), ((a2 1), .inl (ca 0, 18, .inl (fun _ => 0))), (q3, .inr (9, [.int (6 : Int32), .ref (a4 1), .int 0])), ((a4 1), .inl (ca 0, 18, .inl (fun _ => 0))), (q5, .inr (9, [.int (12 : Int32), .ref (a6 1), .int 0])), ((a6 1), .inl (ca 0, 36, .inl (fun _ => 0)))]) X hP hD hS (ccX9_init_10 q7 ) miX6_11 [7] [0, 1, 2, 3, 4, 5, 6] rfl rfl (by decide) (by decide) (by decide) ⟨rfl, rfl⟩ ⟨Nat.le_of_ble_eq_true rfl, Nat.le_of_ble_eq_true rfl⟩ rfl hl.1 rfl (Nat.le_of_ble_eq_true rfl) dX6_init_50 ⟨Nat.le_of_ble_eq_true rfl, Nat.le_of_ble_eq_true rfl⟩ (fun a8 H locs ea8 hP hD hS => ?_)
  have hP : va_P D clsL [(h0, .inr (6, [.ref q1, .ref q3, .ref q5, .null, .null, .null, .int 0, .int 0, .int 0, .int 0, .int 0])), (q1, .inr (9, [.int (6 : Int32), .ref (a2 1), .int 0])), ((a2 1), .inl (ca 0, 18, .inl (fun _ => 0))), (q3, .inr (9, [.int (6 : Int32), .ref (a4 1), .int 0])), ((a4 1), .inl (ca 0, 18, .inl (fun _ => 0))), (q5, .inr (9, [.int (12 : Int32), .ref (a6 1), .int 0])), ((a6 1), .inl (ca 0, 36, .inl (fun _ => 0))), ((a8 0), .inr (9, [.int (10 : Int32), .ref (a8 1), .int 0])), ((a8 1), .inl (ca 0, 30, .inl (fun _ => 0)))] H := hP
  have hD : va_D (va_A [(h0, .inr (6, [.null, .null, .null, .null, .null, .null, .int 0, .int 0, .int 0, .int 0, .int 0]))] s.heap.size) [(h0, .inr (6, [.ref q1, .ref q3, .ref q5, .null, .null, .null, .int 0, .int 0, .int 0, .int 0, .int 0])), (q1, .inr (9, [.int (6 : Int32), .ref (a2 1), .int 0])), ((a2 1), .inl (ca 0, 18, .inl (fun _ => 0))), (q3, .inr (9, [.int (6 : Int32), .ref (a4 1), .int 0])), ((a4 1), .inl (ca 0, 18, .inl (fun _ => 0))), (q5, .inr (9, [.int (12 : Int32), .ref (a6 1), .int 0])), ((a6 1), .inl (ca 0, 36, .inl (fun _ => 0))), ((a8 0), .inr (9, [.int (10 : Int32), .ref (a8 1), .int 0])), ((a8 1), .inl (ca 0, 30, .inl (fun _ => 0)))] := hD
  rw [ea8] at hP hD
  refine W.widen (k := 8) (n := 114) (Nat.le_of_ble_eq_true rfl) (Nat.le_of_ble_eq_true rfl) ?_
  refine xPutF X hin hP hD hS ffX6_26 0 rfl rfl rfl (Nat.le_of_ble_eq_true rfl) dX6_init_53 (fun H locs hP hD hS => ?_)
  have hP : va_P D clsL [(h0, .inr (6, [.ref q1, .ref q3, .ref q5, .ref q7, .null, .null, .int 0, .int 0, .int 0, .int 0, .int 0])), (q1, .inr (9, [.int (6 : Int32), .ref (a2 1), .int 0])), ((a2 1), .inl (ca 0, 18, .inl (fun _ => 0))), (q3, .inr (9, [.int (6 : Int32), .ref (a4 1), .int 0])), ((a4 1), .inl (ca 0, 18, .inl (fun _ => 0))), (q5, .inr (9, [.int (12 : Int32), .ref (a6 1), .int 0])), ((a6 1), .inl (ca 0, 36, .inl (fun _ => 0))), (q7, .inr (9, [.int (10 : Int32), .ref (a8 1), .int 0])), ((a8 1), .inl (ca 0, 30, .inl (fun _ => 0)))] H := hP
  have hD : va_D (va_A [(h0, .inr (6, [.null, .null, .null, .null, .null, .null, .int 0, .int 0, .int 0, .int 0, .int 0]))] s.heap.size) [(h0, .inr (6, [.ref q1, .ref q3, .ref q5, .ref q7, .null, .null, .int 0, .int 0, .int 0, .int 0, .int 0])), (q1, .inr (9, [.int (6 : Int32), .ref (a2 1), .int 0])), ((a2 1), .inl (ca 0, 18, .inl (fun _ => 0))), (q3, .inr (9, [.int (6 : Int32), .ref (a4 1), .int 0])), ((a4 1), .inl (ca 0, 18, .inl (fun _ => 0))), (q5, .inr (9, [.int (12 : Int32), .ref (a6 1), .int 0])), ((a6 1), .inl (ca 0, 36, .inl (fun _ => 0))), (q7, .inr (9, [.int (10 : Int32), .ref (a8 1), .int 0])), ((a8 1), .inl (ca 0, 30, .inl (fun _ => 0)))] := hD
  refine lv_aload_n hx hb dX6_init_56 rfl (lv_at hl 0 rfl) ?_
  refine xNew X hP hD hS nwX6_9 (Nat.le_of_ble_eq_true rfl) (Nat.le_of_ble_eq_true rfl) dX6_init_57 (fun q9 H hP hD hS => ?_)
  have hP : va_P D clsL [(h0, .inr (6, [.ref q1, .ref q3, .ref q5, .ref q7, .null, .null, .int 0, .int 0, .int 0, .int 0, .int 0])), (q1, .inr (9, [.int (6 : Int32), .ref (a2 1), .int 0])), ((a2 1), .inl (ca 0, 18, .inl (fun _ => 0))), (q3, .inr (9, [.int (6 : Int32), .ref (a4 1), .int 0])), ((a4 1), .inl (ca 0, 18, .inl (fun _ => 0))), (q5, .inr (9, [.int (12 : Int32), .ref (a6 1), .int 0])), ((a6 1), .inl (ca 0, 36, .inl (fun _ => 0))), (q7, .inr (9, [.int (10 : Int32), .ref (a8 1), .int 0])), ((a8 1), .inl (ca 0, 30, .inl (fun _ => 0))), (q9, .inr (9, [.int 0, .null, .int 0]))] H := hP
  have hD : va_D (va_A [(h0, .inr (6, [.null, .null, .null, .null, .null, .null, .int 0, .int 0, .int 0, .int 0, .int 0]))] s.heap.size) [(h0, .inr (6, [.ref q1, .ref q3, .ref q5, .ref q7, .null, .null, .int 0, .int 0, .int 0, .int 0, .int 0])), (q1, .inr (9, [.int (6 : Int32), .ref (a2 1), .int 0])), ((a2 1), .inl (ca 0, 18, .inl (fun _ => 0))), (q3, .inr (9, [.int (6 : Int32), .ref (a4 1), .int 0])), ((a4 1), .inl (ca 0, 18, .inl (fun _ => 0))), (q5, .inr (9, [.int (12 : Int32), .ref (a6 1), .int 0])), ((a6 1), .inl (ca 0, 36, .inl (fun _ => 0))), (q7, .inr (9, [.int (10 : Int32), .ref (a8 1), .int 0])), ((a8 1), .inl (ca 0, 30, .inl (fun _ => 0))), (q9, .inr (9, [.int 0, .null, .int 0]))] := hD
  refine W.widen (k := 9) (n := 117) (Nat.le_of_ble_eq_true rfl) (Nat.le_of_ble_eq_true rfl) ?_
  refine lv_dup hx hb dX6_init_60 rfl ?_
  refine lv_bipush (v := (8 : Int32)) hx hb dX6_init_61 (by decide) ?_
  refine callC (wc := [(q9, .inr (9, [.int 0, .null, .int 0]))]) (wr := [(h0, .inr (6, [.ref q1, .ref q3, .ref q5, .ref q7, .null, .null, .int 0, .int 0, .int 0, .int 0, .int 0])), (q1, .inr (9, [.int (6 : Int32), .ref (a2 1), .int 0])), ((a2 1), .inl (ca 0, 18, .inl (fun _ => 0))), (q3, .inr (9, [.int (6 : Int32), .ref (a4 1), .int 0])), ((a4 1), .inl (ca 0, 18, .inl (fun _ => 0))), (q5, .inr (9, [.int (12 : Int32), .ref (a6 1), .int 0])), ((a6 1), .inl (ca 0, 36, .inl (fun _ => 0))), (q7, .inr (9, [.int (10 : Int32), .ref (a8 1), .int 0])), ((a8 1), .inl (ca 0, 30, .inl (fun _ => 0)))]) X hP hD hS (ccX9_init_8 q9 ) miX6_11 [9] [0, 1, 2, 3, 4, 5, 6, 7, 8] rfl rfl (by decide) (by decide) (by decide) ⟨rfl, rfl⟩ ⟨Nat.le_of_ble_eq_true rfl, Nat.le_of_ble_eq_true rfl⟩ rfl hl.1 rfl (Nat.le_of_ble_eq_true rfl) dX6_init_63 ⟨Nat.le_of_ble_eq_true rfl, Nat.le_of_ble_eq_true rfl⟩ (fun a10 H locs ea10 hP hD hS => ?_)
  have hP : va_P D clsL [(h0, .inr (6, [.ref q1, .ref q3, .ref q5, .ref q7, .null, .null, .int 0, .int 0, .int 0, .int 0, .int 0])), (q1, .inr (9, [.int (6 : Int32), .ref (a2 1), .int 0])), ((a2 1), .inl (ca 0, 18, .inl (fun _ => 0))), (q3, .inr (9, [.int (6 : Int32), .ref (a4 1), .int 0])), ((a4 1), .inl (ca 0, 18, .inl (fun _ => 0))), (q5, .inr (9, [.int (12 : Int32), .ref (a6 1), .int 0])), ((a6 1), .inl (ca 0, 36, .inl (fun _ => 0))), (q7, .inr (9, [.int (10 : Int32), .ref (a8 1), .int 0])), ((a8 1), .inl (ca 0, 30, .inl (fun _ => 0))), ((a10 0), .inr (9, [.int (8 : Int32), .ref (a10 1), .int 0])), ((a10 1), .inl (ca 0, 24, .inl (fun _ => 0)))] H := hP
  have hD : va_D (va_A [(h0, .inr (6, [.null, .null, .null, .null, .null, .null, .int 0, .int 0, .int 0, .int 0, .int 0]))] s.heap.size) [(h0, .inr (6, [.ref q1, .ref q3, .ref q5, .ref q7, .null, .null, .int 0, .int 0, .int 0, .int 0, .int 0])), (q1, .inr (9, [.int (6 : Int32), .ref (a2 1), .int 0])), ((a2 1), .inl (ca 0, 18, .inl (fun _ => 0))), (q3, .inr (9, [.int (6 : Int32), .ref (a4 1), .int 0])), ((a4 1), .inl (ca 0, 18, .inl (fun _ => 0))), (q5, .inr (9, [.int (12 : Int32), .ref (a6 1), .int 0])), ((a6 1), .inl (ca 0, 36, .inl (fun _ => 0))), (q7, .inr (9, [.int (10 : Int32), .ref (a8 1), .int 0])), ((a8 1), .inl (ca 0, 30, .inl (fun _ => 0))), ((a10 0), .inr (9, [.int (8 : Int32), .ref (a10 1), .int 0])), ((a10 1), .inl (ca 0, 24, .inl (fun _ => 0)))] := hD
  rw [ea10] at hP hD
  refine W.widen (k := 10) (n := 141) (Nat.le_of_ble_eq_true rfl) (Nat.le_of_ble_eq_true rfl) ?_
  refine xPutF X hin hP hD hS ffX6_29 0 rfl rfl rfl (Nat.le_of_ble_eq_true rfl) dX6_init_66 (fun H locs hP hD hS => ?_)
  have hP : va_P D clsL [(h0, .inr (6, [.ref q1, .ref q3, .ref q5, .ref q7, .ref q9, .null, .int 0, .int 0, .int 0, .int 0, .int 0])), (q1, .inr (9, [.int (6 : Int32), .ref (a2 1), .int 0])), ((a2 1), .inl (ca 0, 18, .inl (fun _ => 0))), (q3, .inr (9, [.int (6 : Int32), .ref (a4 1), .int 0])), ((a4 1), .inl (ca 0, 18, .inl (fun _ => 0))), (q5, .inr (9, [.int (12 : Int32), .ref (a6 1), .int 0])), ((a6 1), .inl (ca 0, 36, .inl (fun _ => 0))), (q7, .inr (9, [.int (10 : Int32), .ref (a8 1), .int 0])), ((a8 1), .inl (ca 0, 30, .inl (fun _ => 0))), (q9, .inr (9, [.int (8 : Int32), .ref (a10 1), .int 0])), ((a10 1), .inl (ca 0, 24, .inl (fun _ => 0)))] H := hP
  have hD : va_D (va_A [(h0, .inr (6, [.null, .null, .null, .null, .null, .null, .int 0, .int 0, .int 0, .int 0, .int 0]))] s.heap.size) [(h0, .inr (6, [.ref q1, .ref q3, .ref q5, .ref q7, .ref q9, .null, .int 0, .int 0, .int 0, .int 0, .int 0])), (q1, .inr (9, [.int (6 : Int32), .ref (a2 1), .int 0])), ((a2 1), .inl (ca 0, 18, .inl (fun _ => 0))), (q3, .inr (9, [.int (6 : Int32), .ref (a4 1), .int 0])), ((a4 1), .inl (ca 0, 18, .inl (fun _ => 0))), (q5, .inr (9, [.int (12 : Int32), .ref (a6 1), .int 0])), ((a6 1), .inl (ca 0, 36, .inl (fun _ => 0))), (q7, .inr (9, [.int (10 : Int32), .ref (a8 1), .int 0])), ((a8 1), .inl (ca 0, 30, .inl (fun _ => 0))), (q9, .inr (9, [.int (8 : Int32), .ref (a10 1), .int 0])), ((a10 1), .inl (ca 0, 24, .inl (fun _ => 0)))] := hD
  refine lv_aload_n hx hb dX6_init_69 rfl (lv_at hl 0 rfl) ?_
  refine xNew X hP hD hS nwX6_32 (Nat.le_of_ble_eq_true rfl) (Nat.le_of_ble_eq_true rfl) dX6_init_70 (fun q11 H hP hD hS => ?_)
  have hP : va_P D clsL [(h0, .inr (6, [.ref q1, .ref q3, .ref q5, .ref q7, .ref q9, .null, .int 0, .int 0, .int 0, .int 0, .int 0])), (q1, .inr (9, [.int (6 : Int32), .ref (a2 1), .int 0])), ((a2 1), .inl (ca 0, 18, .inl (fun _ => 0))), (q3, .inr (9, [.int (6 : Int32), .ref (a4 1), .int 0])), ((a4 1), .inl (ca 0, 18, .inl (fun _ => 0))), (q5, .inr (9, [.int (12 : Int32), .ref (a6 1), .int 0])), ((a6 1), .inl (ca 0, 36, .inl (fun _ => 0))), (q7, .inr (9, [.int (10 : Int32), .ref (a8 1), .int 0])), ((a8 1), .inl (ca 0, 30, .inl (fun _ => 0))), (q9, .inr (9, [.int (8 : Int32), .ref (a10 1), .int 0])), ((a10 1), .inl (ca 0, 24, .inl (fun _ => 0))), (q11, .inr (3, [.null, .null, .null, .null, .null, .null, .int 0, .int 0]))] H := hP
  have hD : va_D (va_A [(h0, .inr (6, [.null, .null, .null, .null, .null, .null, .int 0, .int 0, .int 0, .int 0, .int 0]))] s.heap.size) [(h0, .inr (6, [.ref q1, .ref q3, .ref q5, .ref q7, .ref q9, .null, .int 0, .int 0, .int 0, .int 0, .int 0])), (q1, .inr (9, [.int (6 : Int32), .ref (a2 1), .int 0])), ((a2 1), .inl (ca 0, 18, .inl (fun _ => 0))), (q3, .inr (9, [.int (6 : Int32), .ref (a4 1), .int 0])), ((a4 1), .inl (ca 0, 18, .inl (fun _ => 0))), (q5, .inr (9, [.int (12 : Int32), .ref (a6 1), .int 0])), ((a6 1), .inl (ca 0, 36, .inl (fun _ => 0))), (q7, .inr (9, [.int (10 : Int32), .ref (a8 1), .int 0])), ((a8 1), .inl (ca 0, 30, .inl (fun _ => 0))), (q9, .inr (9, [.int (8 : Int32), .ref (a10 1), .int 0])), ((a10 1), .inl (ca 0, 24, .inl (fun _ => 0))), (q11, .inr (3, [.null, .null, .null, .null, .null, .null, .int 0, .int 0]))] := hD
  refine W.widen (k := 11) (n := 149) (Nat.le_of_ble_eq_true rfl) (Nat.le_of_ble_eq_true rfl) ?_
  refine lv_dup hx hb dX6_init_73 rfl ?_
  refine callC (wc := [(q11, .inr (3, [.null, .null, .null, .null, .null, .null, .int 0, .int 0]))]) (wr := [(h0, .inr (6, [.ref q1, .ref q3, .ref q5, .ref q7, .ref q9, .null, .int 0, .int 0, .int 0, .int 0, .int 0])), (q1, .inr (9, [.int (6 : Int32), .ref (a2 1), .int 0])), ((a2 1), .inl (ca 0, 18, .inl (fun _ => 0))), (q3, .inr (9, [.int (6 : Int32), .ref (a4 1), .int 0])), ((a4 1), .inl (ca 0, 18, .inl (fun _ => 0))), (q5, .inr (9, [.int (12 : Int32), .ref (a6 1), .int 0])), ((a6 1), .inl (ca 0, 36, .inl (fun _ => 0))), (q7, .inr (9, [.int (10 : Int32), .ref (a8 1), .int 0])), ((a8 1), .inl (ca 0, 30, .inl (fun _ => 0))), (q9, .inr (9, [.int (8 : Int32), .ref (a10 1), .int 0])), ((a10 1), .inl (ca 0, 24, .inl (fun _ => 0)))]) X hP hD hS (ccX3_init q11 ) miX6_34 [11] [0, 1, 2, 3, 4, 5, 6, 7, 8, 9, 10] rfl rfl (by decide) (by decide) (by decide) ⟨rfl, rfl⟩ ⟨Nat.le_of_ble_eq_true rfl, Nat.le_of_ble_eq_true rfl⟩ rfl hl.1 rfl (Nat.le_of_ble_eq_true rfl) dX6_init_74 ⟨Nat.le_of_ble_eq_true rfl, Nat.le_of_ble_eq_true rfl⟩ (fun a12 H locs ea12 hP hD hS => ?_)
  have hP : va_P D clsL [(h0, .inr (6, [.ref q1, .ref q3, .ref q5, .ref q7, .ref q9, .null, .int 0, .int 0, .int 0, .int 0, .int 0])), (q1, .inr (9, [.int (6 : Int32), .ref (a2 1), .int 0])), ((a2 1), .inl (ca 0, 18, .inl (fun _ => 0))), (q3, .inr (9, [.int (6 : Int32), .ref (a4 1), .int 0])), ((a4 1), .inl (ca 0, 18, .inl (fun _ => 0))), (q5, .inr (9, [.int (12 : Int32), .ref (a6 1), .int 0])), ((a6 1), .inl (ca 0, 36, .inl (fun _ => 0))), (q7, .inr (9, [.int (10 : Int32), .ref (a8 1), .int 0])), ((a8 1), .inl (ca 0, 30, .inl (fun _ => 0))), (q9, .inr (9, [.int (8 : Int32), .ref (a10 1), .int 0])), ((a10 1), .inl (ca 0, 24, .inl (fun _ => 0))), ((a12 0), .inr (3, [.ref (a12 1), .ref (a12 2), .ref (a12 3), .ref (a12 4), .ref (a12 5), .ref (a12 6), .int 0, .int 0])), ((a12 1), .inl (ca 0, 64, .inl (fun _ => 0))), ((a12 2), .inl (ca 0, 64, .inl (fun _ => 0))), ((a12 3), .inl (ca 0, 3, .inl (fun _ => 0))), ((a12 4), .inl (ca 0, 3, .inl (fun _ => 0))), ((a12 5), .inl (ca 3, 7, .inr (.inl (fun _ => 0)))), ((a12 6), .inl (ca 3, 64, .inr (.inl (fun _ => 0))))] H := hP
  have hD : va_D (va_A [(h0, .inr (6, [.null, .null, .null, .null, .null, .null, .int 0, .int 0, .int 0, .int 0, .int 0]))] s.heap.size) [(h0, .inr (6, [.ref q1, .ref q3, .ref q5, .ref q7, .ref q9, .null, .int 0, .int 0, .int 0, .int 0, .int 0])), (q1, .inr (9, [.int (6 : Int32), .ref (a2 1), .int 0])), ((a2 1), .inl (ca 0, 18, .inl (fun _ => 0))), (q3, .inr (9, [.int (6 : Int32), .ref (a4 1), .int 0])), ((a4 1), .inl (ca 0, 18, .inl (fun _ => 0))), (q5, .inr (9, [.int (12 : Int32), .ref (a6 1), .int 0])), ((a6 1), .inl (ca 0, 36, .inl (fun _ => 0))), (q7, .inr (9, [.int (10 : Int32), .ref (a8 1), .int 0])), ((a8 1), .inl (ca 0, 30, .inl (fun _ => 0))), (q9, .inr (9, [.int (8 : Int32), .ref (a10 1), .int 0])), ((a10 1), .inl (ca 0, 24, .inl (fun _ => 0))), ((a12 0), .inr (3, [.ref (a12 1), .ref (a12 2), .ref (a12 3), .ref (a12 4), .ref (a12 5), .ref (a12 6), .int 0, .int 0])), ((a12 1), .inl (ca 0, 64, .inl (fun _ => 0))), ((a12 2), .inl (ca 0, 64, .inl (fun _ => 0))), ((a12 3), .inl (ca 0, 3, .inl (fun _ => 0))), ((a12 4), .inl (ca 0, 3, .inl (fun _ => 0))), ((a12 5), .inl (ca 3, 7, .inr (.inl (fun _ => 0)))), ((a12 6), .inl (ca 3, 64, .inr (.inl (fun _ => 0))))] := hD
  rw [ea12] at hP hD
  refine W.widen (k := 17) (n := 354) (Nat.le_of_ble_eq_true rfl) (Nat.le_of_ble_eq_true rfl) ?_
  refine xPutF X hin hP hD hS ffX6_35 0 rfl rfl rfl (Nat.le_of_ble_eq_true rfl) dX6_init_77 (fun H locs hP hD hS => ?_)
  have hP : va_P D clsL [(h0, .inr (6, [.ref q1, .ref q3, .ref q5, .ref q7, .ref q9, .ref q11, .int 0, .int 0, .int 0, .int 0, .int 0])), (q1, .inr (9, [.int (6 : Int32), .ref (a2 1), .int 0])), ((a2 1), .inl (ca 0, 18, .inl (fun _ => 0))), (q3, .inr (9, [.int (6 : Int32), .ref (a4 1), .int 0])), ((a4 1), .inl (ca 0, 18, .inl (fun _ => 0))), (q5, .inr (9, [.int (12 : Int32), .ref (a6 1), .int 0])), ((a6 1), .inl (ca 0, 36, .inl (fun _ => 0))), (q7, .inr (9, [.int (10 : Int32), .ref (a8 1), .int 0])), ((a8 1), .inl (ca 0, 30, .inl (fun _ => 0))), (q9, .inr (9, [.int (8 : Int32), .ref (a10 1), .int 0])), ((a10 1), .inl (ca 0, 24, .inl (fun _ => 0))), (q11, .inr (3, [.ref (a12 1), .ref (a12 2), .ref (a12 3), .ref (a12 4), .ref (a12 5), .ref (a12 6), .int 0, .int 0])), ((a12 1), .inl (ca 0, 64, .inl (fun _ => 0))), ((a12 2), .inl (ca 0, 64, .inl (fun _ => 0))), ((a12 3), .inl (ca 0, 3, .inl (fun _ => 0))), ((a12 4), .inl (ca 0, 3, .inl (fun _ => 0))), ((a12 5), .inl (ca 3, 7, .inr (.inl (fun _ => 0)))), ((a12 6), .inl (ca 3, 64, .inr (.inl (fun _ => 0))))] H := hP
  have hD : va_D (va_A [(h0, .inr (6, [.null, .null, .null, .null, .null, .null, .int 0, .int 0, .int 0, .int 0, .int 0]))] s.heap.size) [(h0, .inr (6, [.ref q1, .ref q3, .ref q5, .ref q7, .ref q9, .ref q11, .int 0, .int 0, .int 0, .int 0, .int 0])), (q1, .inr (9, [.int (6 : Int32), .ref (a2 1), .int 0])), ((a2 1), .inl (ca 0, 18, .inl (fun _ => 0))), (q3, .inr (9, [.int (6 : Int32), .ref (a4 1), .int 0])), ((a4 1), .inl (ca 0, 18, .inl (fun _ => 0))), (q5, .inr (9, [.int (12 : Int32), .ref (a6 1), .int 0])), ((a6 1), .inl (ca 0, 36, .inl (fun _ => 0))), (q7, .inr (9, [.int (10 : Int32), .ref (a8 1), .int 0])), ((a8 1), .inl (ca 0, 30, .inl (fun _ => 0))), (q9, .inr (9, [.int (8 : Int32), .ref (a10 1), .int 0])), ((a10 1), .inl (ca 0, 24, .inl (fun _ => 0))), (q11, .inr (3, [.ref (a12 1), .ref (a12 2), .ref (a12 3), .ref (a12 4), .ref (a12 5), .ref (a12 6), .int 0, .int 0])), ((a12 1), .inl (ca 0, 64, .inl (fun _ => 0))), ((a12 2), .inl (ca 0, 64, .inl (fun _ => 0))), ((a12 3), .inl (ca 0, 3, .inl (fun _ => 0))), ((a12 4), .inl (ca 0, 3, .inl (fun _ => 0))), ((a12 5), .inl (ca 3, 7, .inr (.inl (fun _ => 0)))), ((a12 6), .inl (ca 3, 64, .inr (.inl (fun _ => 0))))] := hD
  refine lv_aload_n hx hb dX6_init_80 rfl (lv_at hl 0 rfl) ?_
  refine lv_bipush (v := (100 : Int32)) hx hb dX6_init_81 (by decide) ?_
  refine xPut X hP hD hS fpX6_39 0 rfl rfl rfl (Nat.le_of_ble_eq_true rfl) dX6_init_83 (fun H locs hP hD hS => ?_)
  have hP : va_P D clsL [(h0, .inr (6, [.ref q1, .ref q3, .ref q5, .ref q7, .ref q9, .ref q11, .int (100 : Int32), .int 0, .int 0, .int 0, .int 0])), (q1, .inr (9, [.int (6 : Int32), .ref (a2 1), .int 0])), ((a2 1), .inl (ca 0, 18, .inl (fun _ => 0))), (q3, .inr (9, [.int (6 : Int32), .ref (a4 1), .int 0])), ((a4 1), .inl (ca 0, 18, .inl (fun _ => 0))), (q5, .inr (9, [.int (12 : Int32), .ref (a6 1), .int 0])), ((a6 1), .inl (ca 0, 36, .inl (fun _ => 0))), (q7, .inr (9, [.int (10 : Int32), .ref (a8 1), .int 0])), ((a8 1), .inl (ca 0, 30, .inl (fun _ => 0))), (q9, .inr (9, [.int (8 : Int32), .ref (a10 1), .int 0])), ((a10 1), .inl (ca 0, 24, .inl (fun _ => 0))), (q11, .inr (3, [.ref (a12 1), .ref (a12 2), .ref (a12 3), .ref (a12 4), .ref (a12 5), .ref (a12 6), .int 0, .int 0])), ((a12 1), .inl (ca 0, 64, .inl (fun _ => 0))), ((a12 2), .inl (ca 0, 64, .inl (fun _ => 0))), ((a12 3), .inl (ca 0, 3, .inl (fun _ => 0))), ((a12 4), .inl (ca 0, 3, .inl (fun _ => 0))), ((a12 5), .inl (ca 3, 7, .inr (.inl (fun _ => 0)))), ((a12 6), .inl (ca 3, 64, .inr (.inl (fun _ => 0))))] H := hP
  have hD : va_D (va_A [(h0, .inr (6, [.null, .null, .null, .null, .null, .null, .int 0, .int 0, .int 0, .int 0, .int 0]))] s.heap.size) [(h0, .inr (6, [.ref q1, .ref q3, .ref q5, .ref q7, .ref q9, .ref q11, .int (100 : Int32), .int 0, .int 0, .int 0, .int 0])), (q1, .inr (9, [.int (6 : Int32), .ref (a2 1), .int 0])), ((a2 1), .inl (ca 0, 18, .inl (fun _ => 0))), (q3, .inr (9, [.int (6 : Int32), .ref (a4 1), .int 0])), ((a4 1), .inl (ca 0, 18, .inl (fun _ => 0))), (q5, .inr (9, [.int (12 : Int32), .ref (a6 1), .int 0])), ((a6 1), .inl (ca 0, 36, .inl (fun _ => 0))), (q7, .inr (9, [.int (10 : Int32), .ref (a8 1), .int 0])), ((a8 1), .inl (ca 0, 30, .inl (fun _ => 0))), (q9, .inr (9, [.int (8 : Int32), .ref (a10 1), .int 0])), ((a10 1), .inl (ca 0, 24, .inl (fun _ => 0))), (q11, .inr (3, [.ref (a12 1), .ref (a12 2), .ref (a12 3), .ref (a12 4), .ref (a12 5), .ref (a12 6), .int 0, .int 0])), ((a12 1), .inl (ca 0, 64, .inl (fun _ => 0))), ((a12 2), .inl (ca 0, 64, .inl (fun _ => 0))), ((a12 3), .inl (ca 0, 3, .inl (fun _ => 0))), ((a12 4), .inl (ca 0, 3, .inl (fun _ => 0))), ((a12 5), .inl (ca 3, 7, .inr (.inl (fun _ => 0)))), ((a12 6), .inl (ca 3, 64, .inr (.inl (fun _ => 0))))] := hD
  exact xRet X hr (fun i => [h0, q1, (a2 1), q3, (a4 1), q5, (a6 1), q7, (a8 1), q9, (a10 1), q11, (a12 1), (a12 2), (a12 3), (a12 4), (a12 5), (a12 6)].getD i 0) rfl hP hD hS dX6_init_86
abbrev cwX2_init : Cond := .code yX2_init cX2_init 1 none
theorem cmX2_init : cwX2_init ∈ BIG := (tb2 (List.mem_of_getElem? (i := 193) rfl) rfl)
theorem pdX2_init : yX2_init.cls ≠ "java/lang/invoke/MethodHandle" ∧ yX2_init.cls ≠ "java/lang/invoke/VarHandle" ∧ (parseMethodDescriptor yX2_init.desc).map (fun d => d.parameters.length) = some 0 := by decide +kernel
theorem moX2_3 : Cond.methodLink RX2 3 Lib.objectInit ∈ BIG := (tb2 (List.mem_of_getElem? (i := 194) rfl) rfl)
theorem nwX2_9 : NW RX2 9 0 [.null, .null, .null, .null, .null, .null, .null, .null, .null, .int 0, .int 0, .long 0] 12 := ⟨RX0, TX0, tyX0, rfl, inBX0, tyX0_ok, (tb2 (List.mem_of_getElem? (i := 195) rfl) rfl), (tb2 (List.mem_of_getElem? (i := 44) rfl) rfl), (tb1 (List.mem_of_getElem? (i := 11) rfl) rfl), fun j hj => by
  match j, hj with
  | 0, _ => rfl
  | 1, _ => rfl
  | 2, _ => rfl
  | 3, _ => rfl
  | 4, _ => rfl
  | 5, _ => rfl
  | 6, _ => rfl
  | 7, _ => rfl
  | 8, _ => rfl
  | 9, _ => rfl
  | 10, _ => rfl
  | 11, _ => rfl
  | j + 12, hj => exact absurd hj (by omega)⟩
theorem miX2_11 : MI RX2 11 yX0_init cwX0_init 0 := ⟨(tb2 (List.mem_of_getElem? (i := 196) rfl) rfl), (tb2 (List.mem_of_getElem? (i := 46) rfl) rfl), (tb1 (List.mem_of_getElem? (i := 11) rfl) rfl), cmX0_init, rfl, pdX0_init⟩
theorem ffX2_12 : FPF RX2 12 2 0 2 (.object RX0) := ⟨RX2, TX2, 5, tyX2, rfl, by decide, rfl, rfl, inBX2, lkX2_12, tyX2_ok, nmX2, rfl, rfl, rfl⟩
theorem ffX2_18 : FPF RX2 18 2 1 2 (.array .long) := ⟨RX2, TX2, 5, tyX2, rfl, by decide, rfl, rfl, inBX2, lkX2_18, tyX2_ok, nmX2, rfl, rfl, rfl⟩
abbrev nlX2_init (ca : Nat → Nat)  (a : Nat → Nat) : va_W := [((a 0), .inr (2, [.ref (a 1), .ref (a 11), .int 0, .int 0, .int 0])), ((a 1), .inr (0, [.ref (a 2), .ref (a 3), .ref (a 4), .ref (a 5), .ref (a 6), .ref (a 7), .ref (a 8), .ref (a 9), .ref (a 10), .int 0, .int 0, .long 0])), ((a 2), .inl (ca 0, 6, .inl (fun _ => 0))), ((a 3), .inl (ca 0, 6, .inl (fun _ => 0))), ((a 4), .inl (ca 0, 6, .inl (fun _ => 0))), ((a 5), .inl (ca 0, 6, .inl (fun _ => 0))), ((a 6), .inl (ca 0, 6, .inl (fun _ => 0))), ((a 7), .inl (ca 0, 6, .inl (fun _ => 0))), ((a 8), .inl (ca 0, 6, .inl (fun _ => 0))), ((a 9), .inl (ca 0, 6, .inl (fun _ => 0))), ((a 10), .inl (ca 0, 6, .inl (fun _ => 0))), ((a 11), .inl (ca 3, 10, .inr (.inl (fun _ => 0))))]
abbrev rmcX2_init : Room := { frames := 2, cells := 11, slots := 76, locals := 40 }
set_option maxHeartbeats 4000000 in
set_option maxRecDepth 100000 in
theorem ccX2_init {l : Launch} {D : va_G} {ca : Nat → ClassId} (h0 : Nat)  : CC l D ca yX2_init cwX2_init rmcX2_init [.ref h0] [(h0, .inr (2, [.null, .null, .int 0, .int 0, .int 0]))] h0 (nlX2_init ca ) 11 76 := by
  refine startC (by decide) rfl (Nat.le_of_ble_eq_true rfl) ?_
  intro p e s mm args below meth c ls X hin hr hP hD hS hl
  have X : CXc p s mm args meth c cX2_init 1 RX2 D ca (va_A [(h0, .inr (2, [.null, .null, .int 0, .int 0, .int 0]))] s.heap.size) := X
  have hx := X.1
  have hb := X.2.1
  have hl : lv_has ls 1 [(0, .ref h0)] := hl
  refine lv_aload_n hx hb dX2_init_0 rfl (lv_at hl 0 rfl) ?_
  refine xObj X moX2_3 hl.1 dX2_init_1 (Nat.le_of_ble_eq_true rfl) (Nat.le_of_ble_eq_true rfl) ?_
  refine lv_aload_n hx hb dX2_init_4 rfl (lv_at hl 0 rfl) ?_
  refine xNew X hP hD hS nwX2_9 (Nat.le_of_ble_eq_true rfl) (Nat.le_of_ble_eq_true rfl) dX2_init_5 (fun q1 H hP hD hS => ?_)
  have hP : va_P D clsL [(h0, .inr (2, [.null, .null, .int 0, .int 0, .int 0])), (q1, .inr (0, [.null, .null, .null, .null, .null, .null, .null, .null, .null, .int 0, .int 0, .long 0]))] H := hP
  have hD : va_D (va_A [(h0, .inr (2, [.null, .null, .int 0, .int 0, .int 0]))] s.heap.size) [(h0, .inr (2, [.null, .null, .int 0, .int 0, .int 0])), (q1, .inr (0, [.null, .null, .null, .null, .null, .null, .null, .null, .null, .int 0, .int 0, .long 0]))] := hD
  refine W.widen (k := 1) (n := 12) (Nat.le_of_ble_eq_true rfl) (Nat.le_of_ble_eq_true rfl) ?_
  refine lv_dup hx hb dX2_init_8 rfl ?_
  refine callC (wc := [(q1, .inr (0, [.null, .null, .null, .null, .null, .null, .null, .null, .null, .int 0, .int 0, .long 0]))]) (wr := [(h0, .inr (2, [.null, .null, .int 0, .int 0, .int 0]))]) X hP hD hS (ccX0_init q1 ) miX2_11 [1] [0] rfl rfl (by decide) (by decide) (by decide) ⟨rfl, rfl⟩ ⟨Nat.le_of_ble_eq_true rfl, Nat.le_of_ble_eq_true rfl⟩ rfl hl.1 rfl (Nat.le_of_ble_eq_true rfl) dX2_init_9 ⟨Nat.le_of_ble_eq_true rfl, Nat.le_of_ble_eq_true rfl⟩ (fun a2 H locs ea2 hP hD hS => ?_)
  have hP : va_P D clsL [(h0, .inr (2, [.null, .null, .int 0, .int 0, .int 0])), ((a2 0), .inr (0, [.ref (a2 1), .ref (a2 2), .ref (a2 3), .ref (a2 4), .ref (a2 5), .ref (a2 6), .ref (a2 7), .ref (a2 8), .ref (a2 9), .int 0, .int 0, .long 0])), ((a2 1), .inl (ca 0, 6, .inl (fun _ => 0))), ((a2 2), .inl (ca 0, 6, .inl (fun _ => 0))), ((a2 3), .inl (ca 0, 6, .inl (fun _ => 0))), ((a2 4), .inl (ca 0, 6, .inl (fun _ => 0))), ((a2 5), .inl (ca 0, 6, .inl (fun _ => 0))), ((a2 6), .inl (ca 0, 6, .inl (fun _ => 0))), ((a2 7), .inl (ca 0, 6, .inl (fun _ => 0))), ((a2 8), .inl (ca 0, 6, .inl (fun _ => 0))), ((a2 9), .inl (ca 0, 6, .inl (fun _ => 0)))] H := hP
  have hD : va_D (va_A [(h0, .inr (2, [.null, .null, .int 0, .int 0, .int 0]))] s.heap.size) [(h0, .inr (2, [.null, .null, .int 0, .int 0, .int 0])), ((a2 0), .inr (0, [.ref (a2 1), .ref (a2 2), .ref (a2 3), .ref (a2 4), .ref (a2 5), .ref (a2 6), .ref (a2 7), .ref (a2 8), .ref (a2 9), .int 0, .int 0, .long 0])), ((a2 1), .inl (ca 0, 6, .inl (fun _ => 0))), ((a2 2), .inl (ca 0, 6, .inl (fun _ => 0))), ((a2 3), .inl (ca 0, 6, .inl (fun _ => 0))), ((a2 4), .inl (ca 0, 6, .inl (fun _ => 0))), ((a2 5), .inl (ca 0, 6, .inl (fun _ => 0))), ((a2 6), .inl (ca 0, 6, .inl (fun _ => 0))), ((a2 7), .inl (ca 0, 6, .inl (fun _ => 0))), ((a2 8), .inl (ca 0, 6, .inl (fun _ => 0))), ((a2 9), .inl (ca 0, 6, .inl (fun _ => 0)))] := hD
  rw [ea2] at hP hD
  refine W.widen (k := 10) (n := 66) (Nat.le_of_ble_eq_true rfl) (Nat.le_of_ble_eq_true rfl) ?_
  refine xPutF X hin hP hD hS ffX2_12 0 rfl rfl rfl (Nat.le_of_ble_eq_true rfl) dX2_init_12 (fun H locs hP hD hS => ?_)
  have hP : va_P D clsL [(h0, .inr (2, [.ref q1, .null, .int 0, .int 0, .int 0])), (q1, .inr (0, [.ref (a2 1), .ref (a2 2), .ref (a2 3), .ref (a2 4), .ref (a2 5), .ref (a2 6), .ref (a2 7), .ref (a2 8), .ref (a2 9), .int 0, .int 0, .long 0])), ((a2 1), .inl (ca 0, 6, .inl (fun _ => 0))), ((a2 2), .inl (ca 0, 6, .inl (fun _ => 0))), ((a2 3), .inl (ca 0, 6, .inl (fun _ => 0))), ((a2 4), .inl (ca 0, 6, .inl (fun _ => 0))), ((a2 5), .inl (ca 0, 6, .inl (fun _ => 0))), ((a2 6), .inl (ca 0, 6, .inl (fun _ => 0))), ((a2 7), .inl (ca 0, 6, .inl (fun _ => 0))), ((a2 8), .inl (ca 0, 6, .inl (fun _ => 0))), ((a2 9), .inl (ca 0, 6, .inl (fun _ => 0)))] H := hP
  have hD : va_D (va_A [(h0, .inr (2, [.null, .null, .int 0, .int 0, .int 0]))] s.heap.size) [(h0, .inr (2, [.ref q1, .null, .int 0, .int 0, .int 0])), (q1, .inr (0, [.ref (a2 1), .ref (a2 2), .ref (a2 3), .ref (a2 4), .ref (a2 5), .ref (a2 6), .ref (a2 7), .ref (a2 8), .ref (a2 9), .int 0, .int 0, .long 0])), ((a2 1), .inl (ca 0, 6, .inl (fun _ => 0))), ((a2 2), .inl (ca 0, 6, .inl (fun _ => 0))), ((a2 3), .inl (ca 0, 6, .inl (fun _ => 0))), ((a2 4), .inl (ca 0, 6, .inl (fun _ => 0))), ((a2 5), .inl (ca 0, 6, .inl (fun _ => 0))), ((a2 6), .inl (ca 0, 6, .inl (fun _ => 0))), ((a2 7), .inl (ca 0, 6, .inl (fun _ => 0))), ((a2 8), .inl (ca 0, 6, .inl (fun _ => 0))), ((a2 9), .inl (ca 0, 6, .inl (fun _ => 0)))] := hD
  refine lv_aload_n hx hb dX2_init_15 rfl (lv_at hl 0 rfl) ?_
  refine lv_bipush (v := (10 : Int32)) hx hb dX2_init_16 (by decide) ?_
  refine xNewL (N' := 10) X hP hD hS (by decide) (by decide) (Nat.le_of_ble_eq_true rfl) (Nat.le_of_ble_eq_true rfl) (Nat.le_of_ble_eq_true rfl) dX2_init_18 (fun q3 H hP hD hS => ?_)
  have hP : va_P D clsL [(h0, .inr (2, [.ref q1, .null, .int 0, .int 0, .int 0])), (q1, .inr (0, [.ref (a2 1), .ref (a2 2), .ref (a2 3), .ref (a2 4), .ref (a2 5), .ref (a2 6), .ref (a2 7), .ref (a2 8), .ref (a2 9), .int 0, .int 0, .long 0])), ((a2 1), .inl (ca 0, 6, .inl (fun _ => 0))), ((a2 2), .inl (ca 0, 6, .inl (fun _ => 0))), ((a2 3), .inl (ca 0, 6, .inl (fun _ => 0))), ((a2 4), .inl (ca 0, 6, .inl (fun _ => 0))), ((a2 5), .inl (ca 0, 6, .inl (fun _ => 0))), ((a2 6), .inl (ca 0, 6, .inl (fun _ => 0))), ((a2 7), .inl (ca 0, 6, .inl (fun _ => 0))), ((a2 8), .inl (ca 0, 6, .inl (fun _ => 0))), ((a2 9), .inl (ca 0, 6, .inl (fun _ => 0))), (q3, .inl (ca 3, 10, .inr (.inl (fun _ => 0))))] H := hP
  have hD : va_D (va_A [(h0, .inr (2, [.null, .null, .int 0, .int 0, .int 0]))] s.heap.size) [(h0, .inr (2, [.ref q1, .null, .int 0, .int 0, .int 0])), (q1, .inr (0, [.ref (a2 1), .ref (a2 2), .ref (a2 3), .ref (a2 4), .ref (a2 5), .ref (a2 6), .ref (a2 7), .ref (a2 8), .ref (a2 9), .int 0, .int 0, .long 0])), ((a2 1), .inl (ca 0, 6, .inl (fun _ => 0))), ((a2 2), .inl (ca 0, 6, .inl (fun _ => 0))), ((a2 3), .inl (ca 0, 6, .inl (fun _ => 0))), ((a2 4), .inl (ca 0, 6, .inl (fun _ => 0))), ((a2 5), .inl (ca 0, 6, .inl (fun _ => 0))), ((a2 6), .inl (ca 0, 6, .inl (fun _ => 0))), ((a2 7), .inl (ca 0, 6, .inl (fun _ => 0))), ((a2 8), .inl (ca 0, 6, .inl (fun _ => 0))), ((a2 9), .inl (ca 0, 6, .inl (fun _ => 0))), (q3, .inl (ca 3, 10, .inr (.inl (fun _ => 0))))] := hD
  refine W.widen (k := 11) (n := 76) (Nat.le_of_ble_eq_true rfl) (Nat.le_of_ble_eq_true rfl) ?_
  refine xPutF X hin hP hD hS ffX2_18 0 rfl rfl rfl (Nat.le_of_ble_eq_true rfl) dX2_init_20 (fun H locs hP hD hS => ?_)
  have hP : va_P D clsL [(h0, .inr (2, [.ref q1, .ref q3, .int 0, .int 0, .int 0])), (q1, .inr (0, [.ref (a2 1), .ref (a2 2), .ref (a2 3), .ref (a2 4), .ref (a2 5), .ref (a2 6), .ref (a2 7), .ref (a2 8), .ref (a2 9), .int 0, .int 0, .long 0])), ((a2 1), .inl (ca 0, 6, .inl (fun _ => 0))), ((a2 2), .inl (ca 0, 6, .inl (fun _ => 0))), ((a2 3), .inl (ca 0, 6, .inl (fun _ => 0))), ((a2 4), .inl (ca 0, 6, .inl (fun _ => 0))), ((a2 5), .inl (ca 0, 6, .inl (fun _ => 0))), ((a2 6), .inl (ca 0, 6, .inl (fun _ => 0))), ((a2 7), .inl (ca 0, 6, .inl (fun _ => 0))), ((a2 8), .inl (ca 0, 6, .inl (fun _ => 0))), ((a2 9), .inl (ca 0, 6, .inl (fun _ => 0))), (q3, .inl (ca 3, 10, .inr (.inl (fun _ => 0))))] H := hP
  have hD : va_D (va_A [(h0, .inr (2, [.null, .null, .int 0, .int 0, .int 0]))] s.heap.size) [(h0, .inr (2, [.ref q1, .ref q3, .int 0, .int 0, .int 0])), (q1, .inr (0, [.ref (a2 1), .ref (a2 2), .ref (a2 3), .ref (a2 4), .ref (a2 5), .ref (a2 6), .ref (a2 7), .ref (a2 8), .ref (a2 9), .int 0, .int 0, .long 0])), ((a2 1), .inl (ca 0, 6, .inl (fun _ => 0))), ((a2 2), .inl (ca 0, 6, .inl (fun _ => 0))), ((a2 3), .inl (ca 0, 6, .inl (fun _ => 0))), ((a2 4), .inl (ca 0, 6, .inl (fun _ => 0))), ((a2 5), .inl (ca 0, 6, .inl (fun _ => 0))), ((a2 6), .inl (ca 0, 6, .inl (fun _ => 0))), ((a2 7), .inl (ca 0, 6, .inl (fun _ => 0))), ((a2 8), .inl (ca 0, 6, .inl (fun _ => 0))), ((a2 9), .inl (ca 0, 6, .inl (fun _ => 0))), (q3, .inl (ca 3, 10, .inr (.inl (fun _ => 0))))] := hD
  exact xRet X hr (fun i => [h0, q1, (a2 1), (a2 2), (a2 3), (a2 4), (a2 5), (a2 6), (a2 7), (a2 8), (a2 9), q3].getD i 0) rfl hP hD hS dX2_init_23
