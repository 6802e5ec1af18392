abbrev rmX12_lawLine : Room := { frames := 211, cells := 0, slots := 0, locals := 8270 }
def fX12_lawLine_65 (N : Nat) (x1 : Int32) (m : Mem) : Option Mem := if (m.1 99 30) = 0 then ((fX12_token N (mI m 99 23 ((m.1 99 23) ||| ((1 : Int32) <<< (((16 : Int32) + x1) &&& 31))))).bind (fun q6 => (fX12_fresher (7 : Int32) q6).bind (fun q8 => if ((3 : Int32) + x1) < 0 ∨ 6 ≤ ((3 : Int32) + x1).toNatClampNeg then none else ((fExpr N (mI q6 117 ((3 : Int32) + x1).toNatClampNeg q8)).bind (fun q11 => (fX12_fresher (7 : Int32) q11).bind (fun q13 => if ((3 : Int32) + x1) < 0 ∨ 6 ≤ ((3 : Int32) + x1).toNatClampNeg then none else (some (mI q11 118 ((3 : Int32) + x1).toNatClampNeg q13)))))))) else (some m)
set_option maxHeartbeats 4000000 in
set_option maxRecDepth 100000 in
theorem tX12_lawLine_65 (N : Nat) {l : Launch} {D : va_G} {ca : Nat → ClassId} {ad : Nat → Nat} {p : Program} {e : Env} {s : State} {mm : MethodId} {args : Array Value} {below : List Frame} {meth : Method} {c : Code}  (hn : HNr ca) (X : CX p s mm args meth c cX12_lawLine 2 RX12 D ca ad (WA ca ad s.heap.size)) (hr : meth.sig.returnType = none) (fin : Mem)  : ∀ (x1 : Int32) (m : Mem) (H : Heap) (locs : List Loc) (ls : Array Slot), IW D ca ad (WA ca ad s.heap.size) s m H locs → lv_has ls 2 [(0, .ref (ad 99)), (1, .int x1)] → fX12_lawLine_65 N x1 m = some fin → W p l e rmX12_lawLine s mm args below meth c H locs 0 0 (MQ below (QV D ca ad s.heap.size fin) args s 0 0 (WA ca ad s.heap.size)) (F0 mm 65 ls []) := by
  have hx := X.1
  have hb := X.2.1
  intro x1 m H locs ls hI hl hm
  have hm : (if (m.1 99 30) = 0 then ((fX12_token N (mI m 99 23 ((m.1 99 23) ||| ((1 : Int32) <<< (((16 : Int32) + x1) &&& 31))))).bind (fun q6 => (fX12_fresher (7 : Int32) q6).bind (fun q8 => if ((3 : Int32) + x1) < 0 ∨ 6 ≤ ((3 : Int32) + x1).toNatClampNeg then none else ((fExpr N (mI q6 117 ((3 : Int32) + x1).toNatClampNeg q8)).bind (fun q11 => (fX12_fresher (7 : Int32) q11).bind (fun q13 => if ((3 : Int32) + x1) < 0 ∨ 6 ≤ ((3 : Int32) + x1).toNatClampNeg then none else (some (mI q11 118 ((3 : Int32) + x1).toNatClampNeg q13)))))))) else (some m)) = some fin := hm
  refine lv_aload_n hx hb dX12_lawLine_65 rfl (lv_at hl 0 rfl) ?_
  refine gI X hI fdX12_208 (la_99 hn) dX12_lawLine_66 ?_
  refine lv_if_eq (tgt := 73) hx hb dX12_lawLine_69 (by decide) (fun c5 => ?_) (fun c5 => ?_)
  · have hm := g_t c5 hm
    refine lv_aload_n hx hb dX12_lawLine_73 rfl (lv_at hl 0 rfl) ?_
    refine lv_dup hx hb dX12_lawLine_74 rfl ?_
    refine gI X hI fdX12_238 (la_99 hn) dX12_lawLine_75 ?_
    refine lv_iconst (v := (1 : Int32)) hx hb dX12_lawLine_78 (by decide) ?_
    refine lv_bipush (v := (16 : Int32)) hx hb dX12_lawLine_79 (by decide) ?_
    refine lv_iload_n hx hb dX12_lawLine_81 rfl (lv_at hl 1 rfl) ?_
    refine lv_iadd hx hb dX12_lawLine_82 ?_
    refine lv_ishl hx hb dX12_lawLine_83 ?_
    refine lv_ior hx hb dX12_lawLine_84 ?_
    refine pI X hI fpX12_238 (la_99 hn) dX12_lawLine_85 (fun H locs hI => ?_)
    refine lv_aload_n hx hb dX12_lawLine_88 rfl (lv_at hl 0 rfl) ?_
    obtain ⟨q6, h7, hm⟩ := g_b hm
    refine backV X hI (runV X hI (ctX12_token N  hn _ _ h7 _) mdX12_214 (la_99 hn) rfl ⟨rfl, rfl⟩ ⟨Nat.le_of_ble_eq_true rfl, Nat.le_of_ble_eq_true rfl⟩ rfl hl.1 rfl (Nat.le_of_ble_eq_true rfl) dX12_lawLine_89) (fun H locs hI => ?_)
    refine lv_aload_n hx hb dX12_lawLine_92 rfl (lv_at hl 0 rfl) ?_
    refine gR X hI fdX12_61 (la_99 hn) rf12_19 dX12_lawLine_93 ?_
    refine lv_iconst (v := (3 : Int32)) hx hb dX12_lawLine_96 (by decide) ?_
    refine lv_iload_n hx hb dX12_lawLine_97 rfl (lv_at hl 1 rfl) ?_
    refine lv_iadd hx hb dX12_lawLine_98 ?_
    refine lv_aload_n hx hb dX12_lawLine_99 rfl (lv_at hl 0 rfl) ?_
    refine lv_bipush (v := (7 : Int32)) hx hb dX12_lawLine_100 (by decide) ?_
    obtain ⟨q8, h9, hm⟩ := g_b hm
    refine backI X hI (runV X hI (ctX12_fresher (7 : Int32)  hn _ _ h9 _) mdX12_224 (la_99 hn) rfl ⟨rfl, rfl⟩ ⟨Nat.le_of_ble_eq_true rfl, Nat.le_of_ble_eq_true rfl⟩ rfl hl.1 rfl (Nat.le_of_ble_eq_true rfl) dX12_lawLine_102) (fun H locs hI => ?_)
    obtain ⟨g10, hm⟩ := g_no hm
    refine sI X hI (la_117 hn) g10 dX12_lawLine_105 (fun H locs hI => ?_)
    refine lv_aload_n hx hb dX12_lawLine_106 rfl (lv_at hl 0 rfl) ?_
    obtain ⟨q11, h12, hm⟩ := g_b hm
    refine backV X hI (runV X hI (ctExpr N  hn _ _ h12 _) mdX12_267 (la_99 hn) rfl ⟨rfl, rfl⟩ ⟨Nat.le_of_ble_eq_true rfl, Nat.le_of_ble_eq_true rfl⟩ rfl hl.1 rfl (Nat.le_of_ble_eq_true rfl) dX12_lawLine_107) (fun H locs hI => ?_)
    refine lv_aload_n hx hb dX12_lawLine_110 rfl (lv_at hl 0 rfl) ?_
    refine gR X hI fdX12_64 (la_99 hn) rf12_20 dX12_lawLine_111 ?_
    refine lv_iconst (v := (3 : Int32)) hx hb dX12_lawLine_114 (by decide) ?_
    refine lv_iload_n hx hb dX12_lawLine_115 rfl (lv_at hl 1 rfl) ?_
    refine lv_iadd hx hb dX12_lawLine_116 ?_
    refine lv_aload_n hx hb dX12_lawLine_117 rfl (lv_at hl 0 rfl) ?_
    refine lv_bipush (v := (7 : Int32)) hx hb dX12_lawLine_118 (by decide) ?_
    obtain ⟨q13, h14, hm⟩ := g_b hm
    refine backI X hI (runV X hI (ctX12_fresher (7 : Int32)  hn _ _ h14 _) mdX12_224 (la_99 hn) rfl ⟨rfl, rfl⟩ ⟨Nat.le_of_ble_eq_true rfl, Nat.le_of_ble_eq_true rfl⟩ rfl hl.1 rfl (Nat.le_of_ble_eq_true rfl) dX12_lawLine_120) (fun H locs hI => ?_)
    obtain ⟨g15, hm⟩ := g_no hm
    refine sI X hI (la_118 hn) g15 dX12_lawLine_123 (fun H locs hI => ?_)
    exact rV X hI hr (g_1 hm) dX12_lawLine_124
  · have hm := g_f c5 hm
    exact rV X hI hr (g_1 hm) dX12_lawLine_72
def fX12_lawLine_30 (N : Nat)  (m : Mem) : Option Mem := if (m.1 99 30) = 0 then (if (((m.1 99 23) >>> (((16 : Int32) + ((m.1 99 29) - (8 : Int32))) &&& 31)) &&& (1 : Int32)) = (1 : Int32) then ((fX12_wrong (3 : Int32) m).bind (fun q17 => fX12_lawLine_65 N ((m.1 99 29) - (8 : Int32)) q17)) else (fX12_lawLine_65 N ((m.1 99 29) - (8 : Int32)) m)) else (fX12_lawLine_65 N ((m.1 99 29) - (8 : Int32)) m)
set_option maxHeartbeats 4000000 in
set_option maxRecDepth 100000 in
theorem tX12_lawLine_30 (N : Nat) {l : Launch} {D : va_G} {ca : Nat → ClassId} {ad : Nat → Nat} {p : Program} {e : Env} {s : State} {mm : MethodId} {args : Array Value} {below : List Frame} {meth : Method} {c : Code}  (hn : HNr ca) (X : CX p s mm args meth c cX12_lawLine 2 RX12 D ca ad (WA ca ad s.heap.size)) (hr : meth.sig.returnType = none) (fin : Mem)  : ∀  (m : Mem) (H : Heap) (locs : List Loc) (ls : Array Slot), IW D ca ad (WA ca ad s.heap.size) s m H locs → lv_has ls 2 [(0, .ref (ad 99))] → fX12_lawLine_30 N m = some fin → W p l e rmX12_lawLine s mm args below meth c H locs 0 0 (MQ below (QV D ca ad s.heap.size fin) args s 0 0 (WA ca ad s.heap.size)) (F0 mm 30 ls []) := by
  have hx := X.1
  have hb := X.2.1
  intro m H locs ls hI hl hm
  have hm : (if (m.1 99 30) = 0 then (if (((m.1 99 23) >>> (((16 : Int32) + ((m.1 99 29) - (8 : Int32))) &&& 31)) &&& (1 : Int32)) = (1 : Int32) then ((fX12_wrong (3 : Int32) m).bind (fun q17 => fX12_lawLine_65 N ((m.1 99 29) - (8 : Int32)) q17)) else (fX12_lawLine_65 N ((m.1 99 29) - (8 : Int32)) m)) else (fX12_lawLine_65 N ((m.1 99 29) - (8 : Int32)) m)) = some fin := hm
  refine lv_aload_n hx hb dX12_lawLine_30 rfl (lv_at hl 0 rfl) ?_
  refine gI X hI fdX12_183 (la_99 hn) dX12_lawLine_31 ?_
  refine lv_bipush (v := (8 : Int32)) hx hb dX12_lawLine_34 (by decide) ?_
  refine lv_isub hx hb dX12_lawLine_36 ?_
  refine lv_istore_n (lv' := [(1, .int ((m.1 99 29) - (8 : Int32))), (0, .ref (ad 99))]) hx hb dX12_lawLine_37 rfl hl (by decide) rfl (fun ls hl => ?_)
  refine lv_aload_n hx hb dX12_lawLine_38 rfl (lv_at hl 1 rfl) ?_
  refine gI X hI fdX12_208 (la_99 hn) dX12_lawLine_39 ?_
  refine lv_if_ne (tgt := 65) hx hb dX12_lawLine_42 (by decide) (fun c4 => ?_) (fun c4 => ?_)
  · have hm := g_f c4 hm
    exact tX12_lawLine_65 N hn X hr fin  ((m.1 99 29) - (8 : Int32)) m H locs ls hI (lv_sub hl [1, 0] rfl) hm
  · have hm := g_t c4 hm
    refine lv_aload_n hx hb dX12_lawLine_45 rfl (lv_at hl 1 rfl) ?_
    refine gI X hI fdX12_238 (la_99 hn) dX12_lawLine_46 ?_
    refine lv_bipush (v := (16 : Int32)) hx hb dX12_lawLine_49 (by decide) ?_
    refine lv_iload_n hx hb dX12_lawLine_51 rfl (lv_at hl 0 rfl) ?_
    refine lv_iadd hx hb dX12_lawLine_52 ?_
    refine lv_ishr hx hb dX12_lawLine_53 ?_
    refine lv_iconst (v := (1 : Int32)) hx hb dX12_lawLine_54 (by decide) ?_
    refine lv_iand hx hb dX12_lawLine_55 ?_
    refine lv_iconst (v := (1 : Int32)) hx hb dX12_lawLine_56 (by decide) ?_
    refine lv_icmp_ne (tgt := 65) hx hb dX12_lawLine_57 (by decide) (fun c16 => ?_) (fun c16 => ?_)
    · have hm := g_f c16 hm
      exact tX12_lawLine_65 N hn X hr fin  ((m.1 99 29) - (8 : Int32)) m H locs ls hI (lv_sub hl [1, 0] rfl) hm
    · have hm := g_t c16 hm
      refine lv_aload_n hx hb dX12_lawLine_60 rfl (lv_at hl 1 rfl) ?_
      refine lv_iconst (v := (3 : Int32)) hx hb dX12_lawLine_61 (by decide) ?_
      obtain ⟨q17, h18, hm⟩ := g_b hm
      refine backV X hI (runV X hI (ctX12_wrong (3 : Int32)  hn _ _ h18 _) mdX12_217 (la_99 hn) rfl ⟨rfl, rfl⟩ ⟨Nat.le_of_ble_eq_true rfl, Nat.le_of_ble_eq_true rfl⟩ rfl hl.1 rfl (Nat.le_of_ble_eq_true rfl) dX12_lawLine_62) (fun H locs hI => ?_)
      exact tX12_lawLine_65 N hn X hr fin  ((m.1 99 29) - (8 : Int32)) q17 H locs ls hI (lv_sub hl [1, 0] rfl) hm
def fX12_lawLine_25 (N : Nat)  (m : Mem) : Option Mem := (fX12_wrong (1 : Int32) m).bind (fun q2 => fX12_lawLine_30 N q2)
set_option maxHeartbeats 4000000 in
set_option maxRecDepth 100000 in
theorem tX12_lawLine_25 (N : Nat) {l : Launch} {D : va_G} {ca : Nat → ClassId} {ad : Nat → Nat} {p : Program} {e : Env} {s : State} {mm : MethodId} {args : Array Value} {below : List Frame} {meth : Method} {c : Code}  (hn : HNr ca) (X : CX p s mm args meth c cX12_lawLine 2 RX12 D ca ad (WA ca ad s.heap.size)) (hr : meth.sig.returnType = none) (fin : Mem)  : ∀  (m : Mem) (H : Heap) (locs : List Loc) (ls : Array Slot), IW D ca ad (WA ca ad s.heap.size) s m H locs → lv_has ls 2 [(0, .ref (ad 99))] → fX12_lawLine_25 N m = some fin → W p l e rmX12_lawLine s mm args below meth c H locs 0 0 (MQ below (QV D ca ad s.heap.size fin) args s 0 0 (WA ca ad s.heap.size)) (F0 mm 25 ls []) := by
  have hx := X.1
  have hb := X.2.1
  intro m H locs ls hI hl hm
  have hm : ((fX12_wrong (1 : Int32) m).bind (fun q2 => fX12_lawLine_30 N q2)) = some fin := hm
  refine lv_aload_n hx hb dX12_lawLine_25 rfl (lv_at hl 0 rfl) ?_
  refine lv_iconst (v := (1 : Int32)) hx hb dX12_lawLine_26 (by decide) ?_
  obtain ⟨q2, h3, hm⟩ := g_b hm
  refine backV X hI (runV X hI (ctX12_wrong (1 : Int32)  hn _ _ h3 _) mdX12_217 (la_99 hn) rfl ⟨rfl, rfl⟩ ⟨Nat.le_of_ble_eq_true rfl, Nat.le_of_ble_eq_true rfl⟩ rfl hl.1 rfl (Nat.le_of_ble_eq_true rfl) dX12_lawLine_27) (fun H locs hI => ?_)
  exact tX12_lawLine_30 N hn X hr fin  q2 H locs ls hI (lv_sub hl [0] rfl) hm
def fX12_lawLine (N : Nat)  (m : Mem) : Option Mem := if (m.1 99 28) = 0 then (if (m.1 99 29) < (8 : Int32) then (fX12_lawLine_25 N m) else (if (m.1 99 29) ≤ (10 : Int32) then (fX12_lawLine_30 N m) else (fX12_lawLine_25 N m))) else (fX12_lawLine_25 N m)
set_option maxHeartbeats 4000000 in
set_option maxRecDepth 100000 in
theorem ctX12_lawLine {l : Launch} {D : va_G} {ca : Nat → ClassId} {ad : Nat → Nat} (N : Nat)   (hn : HNr ca) (m : Mem) (fin : Mem) (hm : fX12_lawLine N m = some fin) : CV l D ca ad yX12_lawLine cwX12_lawLine rmX12_lawLine [.ref (ad 99)] m fin := by
  refine start (by decide) (Nat.le_of_ble_eq_true rfl) ?_
  intro p e s mm args below meth c H locs ls X hI hr hl
  have X : CX p s mm args meth c cX12_lawLine 2 RX12 D ca ad (WA ca ad s.heap.size) := X
  have hx := X.1
  have hb := X.2.1
  have hl : lv_has ls 2 [(0, .ref (ad 99))] := hl
  have hm : (if (m.1 99 28) = 0 then (if (m.1 99 29) < (8 : Int32) then (fX12_lawLine_25 N m) else (if (m.1 99 29) ≤ (10 : Int32) then (fX12_lawLine_30 N m) else (fX12_lawLine_25 N m))) else (fX12_lawLine_25 N m)) = some fin := hm
  refine lv_aload_n hx hb dX12_lawLine_0 rfl (lv_at hl 0 rfl) ?_
  refine gI X hI fdX12_173 (la_99 hn) dX12_lawLine_1 ?_
  refine lv_if_ne (tgt := 25) hx hb dX12_lawLine_4 (by decide) (fun c1 => ?_) (fun c1 => ?_)
  · have hm := g_f c1 hm
    exact tX12_lawLine_25 N hn X hr fin  m H locs ls hI (lv_sub hl [0] rfl) hm
  · have hm := g_t c1 hm
    refine lv_aload_n hx hb dX12_lawLine_7 rfl (lv_at hl 0 rfl) ?_
    refine gI X hI fdX12_183 (la_99 hn) dX12_lawLine_8 ?_
    refine lv_bipush (v := (8 : Int32)) hx hb dX12_lawLine_11 (by decide) ?_
    refine lv_icmp_lt (tgt := 25) hx hb dX12_lawLine_13 (by decide) (fun c19 => ?_) (fun c19 => ?_)
    · have hm := g_t c19 hm
      exact tX12_lawLine_25 N hn X hr fin  m H locs ls hI (lv_sub hl [0] rfl) hm
    · have hm := g_f c19 hm
      refine lv_aload_n hx hb dX12_lawLine_16 rfl (lv_at hl 0 rfl) ?_
      refine gI X hI fdX12_183 (la_99 hn) dX12_lawLine_17 ?_
      refine lv_bipush (v := (10 : Int32)) hx hb dX12_lawLine_20 (by decide) ?_
      refine lv_icmp_le (tgt := 30) hx hb dX12_lawLine_22 (by decide) (fun c20 => ?_) (fun c20 => ?_)
      · have hm := g_t c20 hm
        exact tX12_lawLine_30 N hn X hr fin  m H locs ls hI (lv_sub hl [0] rfl) hm
      · have hm := g_f c20 hm
        exact tX12_lawLine_25 N hn X hr fin  m H locs ls hI (lv_sub hl [0] rfl) hm
abbrev rmX12_line : Room := { frames := 212, cells := 0, slots := 0, locals := 8291 }
def fX12_line_16 (N : Nat)  (m : Mem) : Option Mem := (fX12_wrong (1 : Int32) m).bind (fun q2 => some q2)
set_option maxHeartbeats 4000000 in
set_option maxRecDepth 100000 in
theorem tX12_line_16 (N : Nat) {l : Launch} {D : va_G} {ca : Nat → ClassId} {ad : Nat → Nat} {p : Program} {e : Env} {s : State} {mm : MethodId} {args : Array Value} {below : List Frame} {meth : Method} {c : Code}  (hn : HNr ca) (X : CX p s mm args meth c cX12_line 6 RX12 D ca ad (WA ca ad s.heap.size)) (hr : meth.sig.returnType = none) (fin : Mem)  : ∀  (m : Mem) (H : Heap) (locs : List Loc) (ls : Array Slot), IW D ca ad (WA ca ad s.heap.size) s m H locs → lv_has ls 6 [(0, .ref (ad 99))] → fX12_line_16 N m = some fin → W p l e rmX12_line s mm args below meth c H locs 0 0 (MQ below (QV D ca ad s.heap.size fin) args s 0 0 (WA ca ad s.heap.size)) (F0 mm 16 ls []) := by
  have hx := X.1
  have hb := X.2.1
  intro m H locs ls hI hl hm
  have hm : ((fX12_wrong (1 : Int32) m).bind (fun q2 => some q2)) = some fin := hm
  refine lv_aload_n hx hb dX12_line_16 rfl (lv_at hl 0 rfl) ?_
  refine lv_iconst (v := (1 : Int32)) hx hb dX12_line_17 (by decide) ?_
  obtain ⟨q2, h3, hm⟩ := g_b hm
  refine backV X hI (runV X hI (ctX12_wrong (1 : Int32)  hn _ _ h3 _) mdX12_217 (la_99 hn) rfl ⟨rfl, rfl⟩ ⟨Nat.le_of_ble_eq_true rfl, Nat.le_of_ble_eq_true rfl⟩ rfl hl.1 rfl (Nat.le_of_ble_eq_true rfl) dX12_line_18) (fun H locs hI => ?_)
  exact rV X hI hr (g_1 hm) dX12_line_21
def fX12_line_493 (N : Nat)  (m : Mem) : Option Mem := some (mI m 99 24 ((m.1 99 24) + (1 : Int32)))
set_option maxHeartbeats 4000000 in
set_option maxRecDepth 100000 in
theorem tX12_line_493 (N : Nat) {l : Launch} {D : va_G} {ca : Nat → ClassId} {ad : Nat → Nat} {p : Program} {e : Env} {s : State} {mm : MethodId} {args : Array Value} {below : List Frame} {meth : Method} {c : Code}  (hn : HNr ca) (X : CX p s mm args meth c cX12_line 6 RX12 D ca ad (WA ca ad s.heap.size)) (hr : meth.sig.returnType = none) (fin : Mem)  : ∀  (m : Mem) (H : Heap) (locs : List Loc) (ls : Array Slot), IW D ca ad (WA ca ad s.heap.size) s m H locs → lv_has ls 6 [(0, .ref (ad 99))] → fX12_line_493 N m = some fin → W p l e rmX12_line s mm args below meth c H locs 0 0 (MQ below (QV D ca ad s.heap.size fin) args s 0 0 (WA ca ad s.heap.size)) (F0 mm 493 ls []) := by
  have hx := X.1
  have hb := X.2.1
  intro m H locs ls hI hl hm
  have hm : (some (mI m 99 24 ((m.1 99 24) + (1 : Int32)))) = some fin := hm
  refine lv_aload_n hx hb dX12_line_493 rfl (lv_at hl 0 rfl) ?_
  refine lv_dup hx hb dX12_line_494 rfl ?_
  refine gI X hI fdX12_264 (la_99 hn) dX12_line_495 ?_
  refine lv_iconst (v := (1 : Int32)) hx hb dX12_line_498 (by decide) ?_
  refine lv_iadd hx hb dX12_line_499 ?_
  refine pI X hI fpX12_264 (la_99 hn) dX12_line_500 (fun H locs hI => ?_)
  exact rV X hI hr (g_1 hm) dX12_line_503
def fX12_line_464 (N : Nat)  (m : Mem) : Option Mem := if (m.1 99 30) = 0 then ((fX12_isSign (59 : Int32) m).bind (fun q32 => if q32 = 0 then ((fX12_wrong (1 : Int32) m).bind (fun q37 => fX12_line_493 N q37)) else ((fX12_token N m).bind (fun q35 => fX12_line_493 N q35)))) else (some m)
set_option maxHeartbeats 4000000 in
set_option maxRecDepth 100000 in
theorem tX12_line_464 (N : Nat) {l : Launch} {D : va_G} {ca : Nat → ClassId} {ad : Nat → Nat} {p : Program} {e : Env} {s : State} {mm : MethodId} {args : Array Value} {below : List Frame} {meth : Method} {c : Code}  (hn : HNr ca) (X : CX p s mm args meth c cX12_line 6 RX12 D ca ad (WA ca ad s.heap.size)) (hr : meth.sig.returnType = none) (fin : Mem)  : ∀  (m : Mem) (H : Heap) (locs : List Loc) (ls : Array Slot), IW D ca ad (WA ca ad s.heap.size) s m H locs → lv_has ls 6 [(0, .ref (ad 99))] → fX12_line_464 N m = some fin → W p l e rmX12_line s mm args below meth c H locs 0 0 (MQ below (QV D ca ad s.heap.size fin) args s 0 0 (WA ca ad s.heap.size)) (F0 mm 464 ls []) := by
  have hx := X.1
  have hb := X.2.1
  intro m H locs ls hI hl hm
  have hm : (if (m.1 99 30) = 0 then ((fX12_isSign (59 : Int32) m).bind (fun q32 => if q32 = 0 then ((fX12_wrong (1 : Int32) m).bind (fun q37 => fX12_line_493 N q37)) else ((fX12_token N m).bind (fun q35 => fX12_line_493 N q35)))) else (some m)) = some fin := hm
  refine lv_aload_n hx hb dX12_line_464 rfl (lv_at hl 0 rfl) ?_
  refine gI X hI fdX12_208 (la_99 hn) dX12_line_465 ?_
  refine lv_if_eq (tgt := 472) hx hb dX12_line_468 (by decide) (fun c31 => ?_) (fun c31 => ?_)
  · have hm := g_t c31 hm
    refine lv_aload_n hx hb dX12_line_472 rfl (lv_at hl 0 rfl) ?_
    refine lv_bipush (v := (59 : Int32)) hx hb dX12_line_473 (by decide) ?_
    obtain ⟨q32, h33, hm⟩ := g_b hm
    refine backI X hI (runV X hI (ctX12_isSign (59 : Int32)  hn _ _ h33 _) mdX12_261 (la_99 hn) rfl ⟨rfl, rfl⟩ ⟨Nat.le_of_ble_eq_true rfl, Nat.le_of_ble_eq_true rfl⟩ rfl hl.1 rfl (Nat.le_of_ble_eq_true rfl) dX12_line_475) (fun H locs hI => ?_)
    refine lv_if_ne (tgt := 489) hx hb dX12_line_478 (by decide) (fun c34 => ?_) (fun c34 => ?_)
    · have hm := g_f c34 hm
      refine lv_aload_n hx hb dX12_line_489 rfl (lv_at hl 0 rfl) ?_
      obtain ⟨q35, h36, hm⟩ := g_b hm
      refine backV X hI (runV X hI (ctX12_token N  hn _ _ h36 _) mdX12_214 (la_99 hn) rfl ⟨rfl, rfl⟩ ⟨Nat.le_of_ble_eq_true rfl, Nat.le_of_ble_eq_true rfl⟩ rfl hl.1 rfl (Nat.le_of_ble_eq_true rfl) dX12_line_490) (fun H locs hI => ?_)
      exact tX12_line_493 N hn X hr fin  q35 H locs ls hI (lv_sub hl [0] rfl) hm
    · have hm := g_t c34 hm
      refine lv_aload_n hx hb dX12_line_481 rfl (lv_at hl 0 rfl) ?_
      refine lv_iconst (v := (1 : Int32)) hx hb dX12_line_482 (by decide) ?_
      obtain ⟨q37, h38, hm⟩ := g_b hm
      refine backV X hI (runV X hI (ctX12_wrong (1 : Int32)  hn _ _ h38 _) mdX12_217 (la_99 hn) rfl ⟨rfl, rfl⟩ ⟨Nat.le_of_ble_eq_true rfl, Nat.le_of_ble_eq_true rfl⟩ rfl hl.1 rfl (Nat.le_of_ble_eq_true rfl) dX12_line_483) (fun H locs hI => ?_)
      refine lv_goto (tgt := 493) hx hb dX12_line_486 (by decide) ?_
      exact tX12_line_493 N hn X hr fin  q37 H locs ls hI (lv_sub hl [0] rfl) hm
  · have hm := g_f c31 hm
    exact rV X hI hr (g_1 hm) dX12_line_471
def fX12_line_71 (N : Nat) (x1 : Int32) (m : Mem) : Option Mem := if (m.1 99 30) = 0 then ((fX12_token N (mI m 99 23 ((m.1 99 23) ||| ((1 : Int32) <<< (x1 &&& 31))))).bind (fun q11 => if x1 = (0 : Int32) then ((fX12_fresher (0 : Int32) q11).bind (fun q14 => (fX12_fresher (0 : Int32) q11).bind (fun q16 => (fX12_fresh N 102 (6 : Int32) q16 q11).bind (fun q18 => if ((6 : Int32) + q14) < 0 ∨ 12 ≤ ((6 : Int32) + q14).toNatClampNeg then none else ((fX12_numeral N (0 : Int32) (99 : Int32) (mI q18.2 102 ((6 : Int32) + q14).toNatClampNeg q18.1)).bind (fun q21 => if ((6 : Int32) + q14) < 0 ∨ 12 ≤ ((6 : Int32) + q14).toNatClampNeg then none else ((fX12_numeral N (0 : Int32) (9 : Int32) (mI q21.2 103 ((6 : Int32) + q14).toNatClampNeg q21.1)).bind (fun q24 => if ((6 : Int32) + q14) < 0 ∨ 12 ≤ ((6 : Int32) + q14).toNatClampNeg then none else ((fX12_fresher (0 : Int32) (mI q24.2 104 ((6 : Int32) + q14).toNatClampNeg q24.1)).bind (fun q27 => (fX12_reads (0 : Int32) (q27 + (1 : Int32)) (mI q24.2 104 ((6 : Int32) + q14).toNatClampNeg q24.1)).bind (fun q29 => fX12_line_464 N q29))))))))))) else (if x1 = (1 : Int32) then ((fX12_fresher (1 : Int32) q11).bind (fun q40 => (fX12_fresher (1 : Int32) q11).bind (fun q42 => (fX12_fresh N 105 (6 : Int32) q42 q11).bind (fun q44 => if ((6 : Int32) + q40) < 0 ∨ 12 ≤ ((6 : Int32) + q40).toNatClampNeg then none else ((fX12_numeral N (1 : Int32) (99 : Int32) (mI q44.2 105 ((6 : Int32) + q40).toNatClampNeg q44.1)).bind (fun q47 => if ((6 : Int32) + q40) < 0 ∨ 12 ≤ ((6 : Int32) + q40).toNatClampNeg then none else ((fX12_numeral N (0 : Int32) (99 : Int32) (mI q47.2 106 ((6 : Int32) + q40).toNatClampNeg q47.1)).bind (fun q50 => if ((6 : Int32) + q40) < 0 ∨ 12 ≤ ((6 : Int32) + q40).toNatClampNeg then none else ((fX12_fresher (1 : Int32) (mI q50.2 107 ((6 : Int32) + q40).toNatClampNeg q50.1)).bind (fun q53 => (fX12_reads (1 : Int32) (q53 + (1 : Int32)) (mI q50.2 107 ((6 : Int32) + q40).toNatClampNeg q50.1)).bind (fun q55 => fX12_line_464 N q55))))))))))) else (if x1 = (2 : Int32) then ((fX12_fresher (2 : Int32) q11).bind (fun q58 => (fX12_fresher (0 : Int32) q11).bind (fun q60 => (fX12_atHand N 102 (6 : Int32) q60 q11).bind (fun q62 => if ((12 : Int32) + q58) < 0 ∨ 24 ≤ ((12 : Int32) + q58).toNatClampNeg then none else ((fX12_goOn N (mI q62.2 108 ((12 : Int32) + q58).toNatClampNeg q62.1)).bind (fun q65 => (fX12_tubAhead N q65).bind (fun q67 => if ((12 : Int32) + q58) < 0 ∨ 24 ≤ ((12 : Int32) + q58).toNatClampNeg then none else ((fX12_numeral N (0 : Int32) (99 : Int32) (mI q67.2 109 ((12 : Int32) + q58).toNatClampNeg q67.1)).bind (fun q70 => if ((12 : Int32) + q58) < 0 ∨ 24 ≤ ((12 : Int32) + q58).toNatClampNeg then none else ((fX12_fresher (2 : Int32) (mI q70.2 110 ((12 : Int32) + q58).toNatClampNeg q70.1)).bind (fun q73 => (fX12_reads (2 : Int32) (q73 + (1 : Int32)) (mI q70.2 110 ((12 : Int32) + q58).toNatClampNeg q70.1)).bind (fun q75 => fX12_line_464 N q75)))))))))))) else (if x1 = (3 : Int32) then ((fX12_fresher (3 : Int32) q11).bind (fun q78 => (fX12_tubAhead N q11).bind (fun q80 => if ((10 : Int32) + q78) < 0 ∨ 20 ≤ ((10 : Int32) + q78).toNatClampNeg then none else ((fX12_numeral N (1 : Int32) (9 : Int32) (mI q80.2 111 ((10 : Int32) + q78).toNatClampNeg q80.1)).bind (fun q83 => if ((10 : Int32) + q78) < 0 ∨ 20 ≤ ((10 : Int32) + q78).toNatClampNeg then none else ((fX12_numeral N (0 : Int32) (99 : Int32) (mI q83.2 112 ((10 : Int32) + q78).toNatClampNeg q83.1)).bind (fun q86 => if ((10 : Int32) + q78) < 0 ∨ 20 ≤ ((10 : Int32) + q78).toNatClampNeg then none else ((fX12_fresher (3 : Int32) (mI q86.2 113 ((10 : Int32) + q78).toNatClampNeg q86.1)).bind (fun q89 => (fX12_reads (3 : Int32) (q89 + (1 : Int32)) (mI q86.2 113 ((10 : Int32) + q78).toNatClampNeg q86.1)).bind (fun q91 => fX12_line_464 N q91)))))))))) else (if x1 = (4 : Int32) then ((fX12_pipeLine N q11).bind (fun q94 => fX12_line_464 N q94)) else (if x1 = (5 : Int32) then ((fX12_numeral N (0 : Int32) (100 : Int32) q11).bind (fun q97 => (fX12_reads (5 : Int32) q97.1 q97.2).bind (fun q99 => fX12_line_464 N q99))) else (if x1 = (6 : Int32) then ((fX12_numeral N (0 : Int32) (99999 : Int32) q11).bind (fun q102 => (fX12_reads (6 : Int32) q102.1 q102.2).bind (fun q104 => fX12_line_464 N q104))) else ((fX12_lawLine N q11).bind (fun q106 => fX12_line_464 N q106)))))))))) else (some m)
set_option maxHeartbeats 4000000 in
set_option maxRecDepth 100000 in
theorem tX12_line_71 (N : Nat) {l : Launch} {D : va_G} {ca : Nat → ClassId} {ad : Nat → Nat} {p : Program} {e : Env} {s : State} {mm : MethodId} {args : Array Value} {below : List Frame} {meth : Method} {c : Code}  (hn : HNr ca) (X : CX p s mm args meth c cX12_line 6 RX12 D ca ad (WA ca ad s.heap.size)) (hr : meth.sig.returnType = none) (fin : Mem)  : ∀ (x1 : Int32) (m : Mem) (H : Heap) (locs : List Loc) (ls : Array Slot), IW D ca ad (WA ca ad s.heap.size) s m H locs → lv_has ls 6 [(0, .ref (ad 99)), (1, .int x1)] → fX12_line_71 N x1 m = some fin → W p l e rmX12_line s mm args below meth c H locs 0 0 (MQ below (QV D ca ad s.heap.size fin) args s 0 0 (WA ca ad s.heap.size)) (F0 mm 71 ls []) := by
  have hx := X.1
  have hb := X.2.1
  intro x1 m H locs ls hI hl hm
  have hm : (if (m.1 99 30) = 0 then ((fX12_token N (mI m 99 23 ((m.1 99 23) ||| ((1 : Int32) <<< (x1 &&& 31))))).bind (fun q11 => if x1 = (0 : Int32) then ((fX12_fresher (0 : Int32) q11).bind (fun q14 => (fX12_fresher (0 : Int32) q11).bind (fun q16 => (fX12_fresh N 102 (6 : Int32) q16 q11).bind (fun q18 => if ((6 : Int32) + q14) < 0 ∨ 12 ≤ ((6 : Int32) + q14).toNatClampNeg then none else ((fX12_numeral N (0 : Int32) (99 : Int32) (mI q18.2 102 ((6 : Int32) + q14).toNatClampNeg q18.1)).bind (fun q21 => if ((6 : Int32) + q14) < 0 ∨ 12 ≤ ((6 : Int32) + q14).toNatClampNeg then none else ((fX12_numeral N (0 : Int32) (9 : Int32) (mI q21.2 103 ((6 : Int32) + q14).toNatClampNeg q21.1)).bind (fun q24 => if ((6 : Int32) + q14) < 0 ∨ 12 ≤ ((6 : Int32) + q14).toNatClampNeg then none else ((fX12_fresher (0 : Int32) (mI q24.2 104 ((6 : Int32) + q14).toNatClampNeg q24.1)).bind (fun q27 => (fX12_reads (0 : Int32) (q27 + (1 : Int32)) (mI q24.2 104 ((6 : Int32) + q14).toNatClampNeg q24.1)).bind (fun q29 => fX12_line_464 N q29))))))))))) else (if x1 = (1 : Int32) then ((fX12_fresher (1 : Int32) q11).bind (fun q40 => (fX12_fresher (1 : Int32) q11).bind (fun q42 => (fX12_fresh N 105 (6 : Int32) q42 q11).bind (fun q44 => if ((6 : Int32) + q40) < 0 ∨ 12 ≤ ((6 : Int32) + q40).toNatClampNeg then none else ((fX12_numeral N (1 : Int32) (99 : Int32) (mI q44.2 105 ((6 : Int32) + q40).toNatClampNeg q44.1)).bind (fun q47 => if ((6 : Int32) + q40) < 0 ∨ 12 ≤ ((6 : Int32) + q40).toNatClampNeg then none else ((fX12_numeral N (0 : Int32) (99 : Int32) (mI q47.2 106 ((6 : Int32) + q40).toNatClampNeg q47.1)).bind (fun q50 => if ((6 : Int32) + q40) < 0 ∨ 12 ≤ ((6 : Int32) + q40).toNatClampNeg then none else ((fX12_fresher (1 : Int32) (mI q50.2 107 ((6 : Int32) + q40).toNatClampNeg q50.1)).bind (fun q53 => (fX12_reads (1 : Int32) (q53 + (1 : Int32)) (mI q50.2 107 ((6 : Int32) + q40).toNatClampNeg q50.1)).bind (fun q55 => fX12_line_464 N q55))))))))))) else (if x1 = (2 : Int32) then ((fX12_fresher (2 : Int32) q11).bind (fun q58 => (fX12_fresher (0 : Int32) q11).bind (fun q60 => (fX12_atHand N 102 (6 : Int32) q60 q11).bind (fun q62 => if ((12 : Int32) + q58) < 0 ∨ 24 ≤ ((12 : Int32) + q58).toNatClampNeg then none else ((fX12_goOn N (mI q62.2 108 ((12 : Int32) + q58).toNatClampNeg q62.1)).bind (fun q65 => (fX12_tubAhead N q65).bind (fun q67 => if ((12 : Int32) + q58) < 0 ∨ 24 ≤ ((12 : Int32) + q58).toNatClampNeg then none else ((fX12_numeral N (0 : Int32) (99 : Int32) (mI q67.2 109 ((12 : Int32) + q58).toNatClampNeg q67.1)).bind (fun q70 => if ((12 : Int32) + q58) < 0 ∨ 24 ≤ ((12 : Int32) + q58).toNatClampNeg then none else ((fX12_fresher (2 : Int32) (mI q70.2 110 ((12 : Int32) + q58).toNatClampNeg q70.1)).bind (fun q73 => (fX12_reads (2 : Int32) (q73 + (1 : Int32)) (mI q70.2 110 ((12 : Int32) + q58).toNatClampNeg q70.1)).bind (fun q75 => fX12_line_464 N q75)))))))))))) else (if x1 = (3 : Int32) then ((fX12_fresher (3 : Int32) q11).bind (fun q78 => (fX12_tubAhead N q11).bind (fun q80 => if ((10 : Int32) + q78) < 0 ∨ 20 ≤ ((10 : Int32) + q78).toNatClampNeg then none else ((fX12_numeral N (1 : Int32) (9 : Int32) (mI q80.2 111 ((10 : Int32) + q78).toNatClampNeg q80.1)).bind (fun q83 => if ((10 : Int32) + q78) < 0 ∨ 20 ≤ ((10 : Int32) + q78).toNatClampNeg then none else ((fX12_numeral N (0 : Int32) (99 : Int32) (mI q83.2 112 ((10 : Int32) + q78).toNatClampNeg q83.1)).bind (fun q86 => if ((10 : Int32) + q78) < 0 ∨ 20 ≤ ((10 : Int32) + q78).toNatClampNeg then none else ((fX12_fresher (3 : Int32) (mI q86.2 113 ((10 : Int32) + q78).toNatClampNeg q86.1)).bind (fun q89 => (fX12_reads (3 : Int32) (q89 + (1 : Int32)) (mI q86.2 113 ((10 : Int32) + q78).toNatClampNeg q86.1)).bind (fun q91 => fX12_line_464 N q91)))))))))) else (if x1 = (4 : Int32) then ((fX12_pipeLine N q11).bind (fun q94 => fX12_line_464 N q94)) else (if x1 = (5 : Int32) then ((fX12_numeral N (0 : Int32) (100 : Int32) q11).bind (fun q97 => (fX12_reads (5 : Int32) q97.1 q97.2).bind (fun q99 => fX12_line_464 N q99))) else (if x1 = (6 : Int32) then ((fX12_numeral N (0 : Int32) (99999 : Int32) q11).bind (fun q102 => (fX12_reads (6 : Int32) q102.1 q102.2).bind (fun q104 => fX12_line_464 N q104))) else ((fX12_lawLine N q11).bind (fun q106 => fX12_line_464 N q106)))))))))) else (some m)) = some fin := hm
  refine lv_aload_n hx hb dX12_line_71 rfl (lv_at hl 0 rfl) ?_
  refine gI X hI fdX12_208 (la_99 hn) dX12_line_72 ?_
  refine lv_if_eq (tgt := 79) hx hb dX12_line_75 (by decide) (fun c10 => ?_) (fun c10 => ?_)
  · have hm := g_t c10 hm
    refine lv_aload_n hx hb dX12_line_79 rfl (lv_at hl 0 rfl) ?_
    refine lv_dup hx hb dX12_line_80 rfl ?_
    refine gI X hI fdX12_238 (la_99 hn) dX12_line_81 ?_
    refine lv_iconst (v := (1 : Int32)) hx hb dX12_line_84 (by decide) ?_
    refine lv_iload_n hx hb dX12_line_85 rfl (lv_at hl 1 rfl) ?_
    refine lv_ishl hx hb dX12_line_86 ?_
    refine lv_ior hx hb dX12_line_87 ?_
    refine pI X hI fpX12_238 (la_99 hn) dX12_line_88 (fun H locs hI => ?_)
    refine lv_aload_n hx hb dX12_line_91 rfl (lv_at hl 0 rfl) ?_
    obtain ⟨q11, h12, hm⟩ := g_b hm
    refine backV X hI (runV X hI (ctX12_token N  hn _ _ h12 _) mdX12_214 (la_99 hn) rfl ⟨rfl, rfl⟩ ⟨Nat.le_of_ble_eq_true rfl, Nat.le_of_ble_eq_true rfl⟩ rfl hl.1 rfl (Nat.le_of_ble_eq_true rfl) dX12_line_92) (fun H locs hI => ?_)
    refine lv_iload_n hx hb dX12_line_95 rfl (lv_at hl 1 rfl) ?_
    by_cases c13 : x1 = (0 : Int32)
    · have hm := g_t c13 hm
      refine lv_tableIn (tgt := 140) hx hb dX12_line_96 (by rw [c13]; decide) (by rw [c13]; decide) (off := 44) (by rw [c13]; decide) (by decide) ?_
      refine lv_bipush (v := (6 : Int32)) hx hb dX12_line_140 (by decide) ?_
      refine lv_aload_n hx hb dX12_line_142 rfl (lv_at hl 0 rfl) ?_
      refine lv_iconst (v := (0 : Int32)) hx hb dX12_line_143 (by decide) ?_
      obtain ⟨q14, h15, hm⟩ := g_b hm
      refine backI X hI (runV X hI (ctX12_fresher (0 : Int32)  hn _ _ h15 _) mdX12_224 (la_99 hn) rfl ⟨rfl, rfl⟩ ⟨Nat.le_of_ble_eq_true rfl, Nat.le_of_ble_eq_true rfl⟩ rfl hl.1 rfl (Nat.le_of_ble_eq_true rfl) dX12_line_144) (fun H locs hI => ?_)
      refine lv_iadd hx hb dX12_line_147 ?_
      refine lv_istore_n (lv' := [(2, .int ((6 : Int32) + q14)), (0, .ref (ad 99)), (1, .int x1)]) hx hb dX12_line_148 rfl hl (by decide) rfl (fun ls hl => ?_)
      refine lv_aload_n hx hb dX12_line_149 rfl (lv_at hl 1 rfl) ?_
      refine gR X hI fdX12_16 (la_99 hn) rf12_4 dX12_line_150 ?_
      refine lv_iload_n hx hb dX12_line_153 rfl (lv_at hl 0 rfl) ?_
      refine lv_aload_n hx hb dX12_line_154 rfl (lv_at hl 1 rfl) ?_
      refine lv_aload_n hx hb dX12_line_155 rfl (lv_at hl 1 rfl) ?_
      refine gR X hI fdX12_16 (la_99 hn) rf12_4 dX12_line_156 ?_
      refine lv_bipush (v := (6 : Int32)) hx hb dX12_line_159 (by decide) ?_
      refine lv_aload_n hx hb dX12_line_161 rfl (lv_at hl 1 rfl) ?_
      refine lv_iconst (v := (0 : Int32)) hx hb dX12_line_162 (by decide) ?_
      obtain ⟨q16, h17, hm⟩ := g_b hm
      refine backI X hI (runV X hI (ctX12_fresher (0 : Int32)  hn _ _ h17 _) mdX12_224 (la_99 hn) rfl ⟨rfl, rfl⟩ ⟨Nat.le_of_ble_eq_true rfl, Nat.le_of_ble_eq_true rfl⟩ rfl hl.1 rfl (Nat.le_of_ble_eq_true rfl) dX12_line_163) (fun H locs hI => ?_)
      obtain ⟨q18, h19, hm⟩ := g_b hm
      refine backI X hI (runV X hI (ctX12_fresh N 102 (6 : Int32) q16 (ly_self (la_102 hn)) hn _ _ h19 _) mdX12_241 (la_99 hn) rfl ⟨rfl, rfl⟩ ⟨Nat.le_of_ble_eq_true rfl, Nat.le_of_ble_eq_true rfl⟩ rfl hl.1 rfl (Nat.le_of_ble_eq_true rfl) dX12_line_166) (fun H locs hI => ?_)
      obtain ⟨g20, hm⟩ := g_no hm
      refine sI X hI (la_102 hn) g20 dX12_line_169 (fun H locs hI => ?_)
      refine lv_aload_n hx hb dX12_line_170 rfl (lv_at hl 1 rfl) ?_
      refine gR X hI fdX12_19 (la_99 hn) rf12_5 dX12_line_171 ?_
      refine lv_iload_n hx hb dX12_line_174 rfl (lv_at hl 0 rfl) ?_
      refine lv_aload_n hx hb dX12_line_175 rfl (lv_at hl 1 rfl) ?_
      refine lv_iconst (v := (0 : Int32)) hx hb dX12_line_176 (by decide) ?_
      refine lv_bipush (v := (99 : Int32)) hx hb dX12_line_177 (by decide) ?_
      obtain ⟨q21, h22, hm⟩ := g_b hm
      refine backI X hI (runV X hI (ctX12_numeral N (0 : Int32) (99 : Int32)  hn _ _ h22 _) mdX12_244 (la_99 hn) rfl ⟨rfl, rfl⟩ ⟨Nat.le_of_ble_eq_true rfl, Nat.le_of_ble_eq_true rfl⟩ rfl hl.1 rfl (Nat.le_of_ble_eq_true rfl) dX12_line_179) (fun H locs hI => ?_)
      obtain ⟨g23, hm⟩ := g_no hm
      refine sI X hI (la_103 hn) g23 dX12_line_182 (fun H locs hI => ?_)
      refine lv_aload_n hx hb dX12_line_183 rfl (lv_at hl 1 rfl) ?_
      refine gR X hI fdX12_22 (la_99 hn) rf12_6 dX12_line_184 ?_
      refine lv_iload_n hx hb dX12_line_187 rfl (lv_at hl 0 rfl) ?_
      refine lv_aload_n hx hb dX12_line_188 rfl (lv_at hl 1 rfl) ?_
      refine lv_iconst (v := (0 : Int32)) hx hb dX12_line_189 (by decide) ?_
      refine lv_bipush (v := (9 : Int32)) hx hb dX12_line_190 (by decide) ?_
      obtain ⟨q24, h25, hm⟩ := g_b hm
      refine backI X hI (runV X hI (ctX12_numeral N (0 : Int32) (9 : Int32)  hn _ _ h25 _) mdX12_244 (la_99 hn) rfl ⟨rfl, rfl⟩ ⟨Nat.le_of_ble_eq_true rfl, Nat.le_of_ble_eq_true rfl⟩ rfl hl.1 rfl (Nat.le_of_ble_eq_true rfl) dX12_line_192) (fun H locs hI => ?_)
      obtain ⟨g26, hm⟩ := g_no hm
      refine sI X hI (la_104 hn) g26 dX12_line_195 (fun H locs hI => ?_)
      refine lv_aload_n hx hb dX12_line_196 rfl (lv_at hl 1 rfl) ?_
      refine lv_iconst (v := (0 : Int32)) hx hb dX12_line_197 (by decide) ?_
      refine lv_aload_n hx hb dX12_line_198 rfl (lv_at hl 1 rfl) ?_
      refine lv_iconst (v := (0 : Int32)) hx hb dX12_line_199 (by decide) ?_
      obtain ⟨q27, h28, hm⟩ := g_b hm
      refine backI X hI (runV X hI (ctX12_fresher (0 : Int32)  hn _ _ h28 _) mdX12_224 (la_99 hn) rfl ⟨rfl, rfl⟩ ⟨Nat.le_of_ble_eq_true rfl, Nat.le_of_ble_eq_true rfl⟩ rfl hl.1 rfl (Nat.le_of_ble_eq_true rfl) dX12_line_200) (fun H locs hI => ?_)
      refine lv_iconst (v := (1 : Int32)) hx hb dX12_line_203 (by decide) ?_
      refine lv_iadd hx hb dX12_line_204 ?_
      obtain ⟨q29, h30, hm⟩ := g_b hm
      refine backV X hI (runV X hI (ctX12_reads (0 : Int32) (q27 + (1 : Int32))  hn _ _ h30 _) mdX12_248 (la_99 hn) rfl ⟨rfl, rfl⟩ ⟨Nat.le_of_ble_eq_true rfl, Nat.le_of_ble_eq_true rfl⟩ rfl hl.1 rfl (Nat.le_of_ble_eq_true rfl) dX12_line_205) (fun H locs hI => ?_)
      refine lv_goto (tgt := 464) hx hb dX12_line_208 (by decide) ?_
      exact tX12_line_464 N hn X hr fin  q29 H locs ls hI (lv_sub hl [1] rfl) hm
    · have hm := g_f c13 hm
      by_cases c39 : x1 = (1 : Int32)
      · have hm := g_t c39 hm
        refine lv_tableIn (tgt := 211) hx hb dX12_line_96 (by rw [c39]; decide) (by rw [c39]; decide) (off := 115) (by rw [c39]; decide) (by decide) ?_
        refine lv_bipush (v := (6 : Int32)) hx hb dX12_line_211 (by decide) ?_
        refine lv_aload_n hx hb dX12_line_213 rfl (lv_at hl 0 rfl) ?_
        refine lv_iconst (v := (1 : Int32)) hx hb dX12_line_214 (by decide) ?_
        obtain ⟨q40, h41, hm⟩ := g_b hm
        refine backI X hI (runV X hI (ctX12_fresher (1 : Int32)  hn _ _ h41 _) mdX12_224 (la_99 hn) rfl ⟨rfl, rfl⟩ ⟨Nat.le_of_ble_eq_true rfl, Nat.le_of_ble_eq_true rfl⟩ rfl hl.1 rfl (Nat.le_of_ble_eq_true rfl) dX12_line_215) (fun H locs hI => ?_)
        refine lv_iadd hx hb dX12_line_218 ?_
        refine lv_istore_n (lv' := [(3, .int ((6 : Int32) + q40)), (0, .ref (ad 99)), (1, .int x1)]) hx hb dX12_line_219 rfl hl (by decide) rfl (fun ls hl => ?_)
        refine lv_aload_n hx hb dX12_line_220 rfl (lv_at hl 1 rfl) ?_
        refine gR X hI fdX12_25 (la_99 hn) rf12_7 dX12_line_221 ?_
        refine lv_iload_n hx hb dX12_line_224 rfl (lv_at hl 0 rfl) ?_
        refine lv_aload_n hx hb dX12_line_225 rfl (lv_at hl 1 rfl) ?_
        refine lv_aload_n hx hb dX12_line_226 rfl (lv_at hl 1 rfl) ?_
        refine gR X hI fdX12_25 (la_99 hn) rf12_7 dX12_line_227 ?_
        refine lv_bipush (v := (6 : Int32)) hx hb dX12_line_230 (by decide) ?_
        refine lv_aload_n hx hb dX12_line_232 rfl (lv_at hl 1 rfl) ?_
        refine lv_iconst (v := (1 : Int32)) hx hb dX12_line_233 (by decide) ?_
        obtain ⟨q42, h43, hm⟩ := g_b hm
        refine backI X hI (runV X hI (ctX12_fresher (1 : Int32)  hn _ _ h43 _) mdX12_224 (la_99 hn) rfl ⟨rfl, rfl⟩ ⟨Nat.le_of_ble_eq_true rfl, Nat.le_of_ble_eq_true rfl⟩ rfl hl.1 rfl (Nat.le_of_ble_eq_true rfl) dX12_line_234) (fun H locs hI => ?_)
        obtain ⟨q44, h45, hm⟩ := g_b hm
        refine backI X hI (runV X hI (ctX12_fresh N 105 (6 : Int32) q42 (ly_self (la_105 hn)) hn _ _ h45 _) mdX12_241 (la_99 hn) rfl ⟨rfl, rfl⟩ ⟨Nat.le_of_ble_eq_true rfl, Nat.le_of_ble_eq_true rfl⟩ rfl hl.1 rfl (Nat.le_of_ble_eq_true rfl) dX12_line_237) (fun H locs hI => ?_)
        obtain ⟨g46, hm⟩ := g_no hm
        refine sI X hI (la_105 hn) g46 dX12_line_240 (fun H locs hI => ?_)
        refine lv_aload_n hx hb dX12_line_241 rfl (lv_at hl 1 rfl) ?_
        refine gR X hI fdX12_28 (la_99 hn) rf12_8 dX12_line_242 ?_
        refine lv_iload_n hx hb dX12_line_245 rfl (lv_at hl 0 rfl) ?_
        refine lv_aload_n hx hb dX12_line_246 rfl (lv_at hl 1 rfl) ?_
        refine lv_iconst (v := (1 : Int32)) hx hb dX12_line_247 (by decide) ?_
        refine lv_bipush (v := (99 : Int32)) hx hb dX12_line_248 (by decide) ?_
        obtain ⟨q47, h48, hm⟩ := g_b hm
        refine backI X hI (runV X hI (ctX12_numeral N (1 : Int32) (99 : Int32)  hn _ _ h48 _) mdX12_244 (la_99 hn) rfl ⟨rfl, rfl⟩ ⟨Nat.le_of_ble_eq_true rfl, Nat.le_of_ble_eq_true rfl⟩ rfl hl.1 rfl (Nat.le_of_ble_eq_true rfl) dX12_line_250) (fun H locs hI => ?_)
        obtain ⟨g49, hm⟩ := g_no hm
        refine sI X hI (la_106 hn) g49 dX12_line_253 (fun H locs hI => ?_)
        refine lv_aload_n hx hb dX12_line_254 rfl (lv_at hl 1 rfl) ?_
        refine gR X hI fdX12_31 (la_99 hn) rf12_9 dX12_line_255 ?_
        refine lv_iload_n hx hb dX12_line_258 rfl (lv_at hl 0 rfl) ?_
        refine lv_aload_n hx hb dX12_line_259 rfl (lv_at hl 1 rfl) ?_
        refine lv_iconst (v := (0 : Int32)) hx hb dX12_line_260 (by decide) ?_
        refine lv_bipush (v := (99 : Int32)) hx hb dX12_line_261 (by decide) ?_
        obtain ⟨q50, h51, hm⟩ := g_b hm
        refine backI X hI (runV X hI (ctX12_numeral N (0 : Int32) (99 : Int32)  hn _ _ h51 _) mdX12_244 (la_99 hn) rfl ⟨rfl, rfl⟩ ⟨Nat.le_of_ble_eq_true rfl, Nat.le_of_ble_eq_true rfl⟩ rfl hl.1 rfl (Nat.le_of_ble_eq_true rfl) dX12_line_263) (fun H locs hI => ?_)
        obtain ⟨g52, hm⟩ := g_no hm
        refine sI X hI (la_107 hn) g52 dX12_line_266 (fun H locs hI => ?_)
        refine lv_aload_n hx hb dX12_line_267 rfl (lv_at hl 1 rfl) ?_
        refine lv_iconst (v := (1 : Int32)) hx hb dX12_line_268 (by decide) ?_
        refine lv_aload_n hx hb dX12_line_269 rfl (lv_at hl 1 rfl) ?_
        refine lv_iconst (v := (1 : Int32)) hx hb dX12_line_270 (by decide) ?_
        obtain ⟨q53, h54, hm⟩ := g_b hm
        refine backI X hI (runV X hI (ctX12_fresher (1 : Int32)  hn _ _ h54 _) mdX12_224 (la_99 hn) rfl ⟨rfl, rfl⟩ ⟨Nat.le_of_ble_eq_true rfl, Nat.le_of_ble_eq_true rfl⟩ rfl hl.1 rfl (Nat.le_of_ble_eq_true rfl) dX12_line_271) (fun H locs hI => ?_)
        refine lv_iconst (v := (1 : Int32)) hx hb dX12_line_274 (by decide) ?_
        refine lv_iadd hx hb dX12_line_275 ?_
        obtain ⟨q55, h56, hm⟩ := g_b hm
        refine backV X hI (runV X hI (ctX12_reads (1 : Int32) (q53 + (1 : Int32))  hn _ _ h56 _) mdX12_248 (la_99 hn) rfl ⟨rfl, rfl⟩ ⟨Nat.le_of_ble_eq_true rfl, Nat.le_of_ble_eq_true rfl⟩ rfl hl.1 rfl (Nat.le_of_ble_eq_true rfl) dX12_line_276) (fun H locs hI => ?_)
        refine lv_goto (tgt := 464) hx hb dX12_line_279 (by decide) ?_
        exact tX12_line_464 N hn X hr fin  q55 H locs ls hI (lv_sub hl [1] rfl) hm
      · have hm := g_f c39 hm
        by_cases c57 : x1 = (2 : Int32)
        · have hm := g_t c57 hm
          refine lv_tableIn (tgt := 282) hx hb dX12_line_96 (by rw [c57]; decide) (by rw [c57]; decide) (off := 186) (by rw [c57]; decide) (by decide) ?_
          refine lv_bipush (v := (12 : Int32)) hx hb dX12_line_282 (by decide) ?_
          refine lv_aload_n hx hb dX12_line_284 rfl (lv_at hl 0 rfl) ?_
          refine lv_iconst (v := (2 : Int32)) hx hb dX12_line_285 (by decide) ?_
          obtain ⟨q58, h59, hm⟩ := g_b hm
          refine backI X hI (runV X hI (ctX12_fresher (2 : Int32)  hn _ _ h59 _) mdX12_224 (la_99 hn) rfl ⟨rfl, rfl⟩ ⟨Nat.le_of_ble_eq_true rfl, Nat.le_of_ble_eq_true rfl⟩ rfl hl.1 rfl (Nat.le_of_ble_eq_true rfl) dX12_line_286) (fun H locs hI => ?_)
          refine lv_iadd hx hb dX12_line_289 ?_
          refine lv_istore (lv' := [(4, .int ((12 : Int32) + q58)), (0, .ref (ad 99)), (1, .int x1)]) hx hb dX12_line_290 hl (by decide) rfl (fun ls hl => ?_)
          refine lv_aload_n hx hb dX12_line_292 rfl (lv_at hl 1 rfl) ?_
          refine gR X hI fdX12_34 (la_99 hn) rf12_10 dX12_line_293 ?_
          refine lv_iload hx hb dX12_line_296 (lv_at hl 0 rfl) ?_
          refine lv_aload_n hx hb dX12_line_298 rfl (lv_at hl 1 rfl) ?_
          refine lv_aload_n hx hb dX12_line_299 rfl (lv_at hl 1 rfl) ?_
          refine gR X hI fdX12_16 (la_99 hn) rf12_4 dX12_line_300 ?_
          refine lv_bipush (v := (6 : Int32)) hx hb dX12_line_303 (by decide) ?_
          refine lv_aload_n hx hb dX12_line_305 rfl (lv_at hl 1 rfl) ?_
          refine lv_iconst (v := (0 : Int32)) hx hb dX12_line_306 (by decide) ?_
          obtain ⟨q60, h61, hm⟩ := g_b hm
          refine backI X hI (runV X hI (ctX12_fresher (0 : Int32)  hn _ _ h61 _) mdX12_224 (la_99 hn) rfl ⟨rfl, rfl⟩ ⟨Nat.le_of_ble_eq_true rfl, Nat.le_of_ble_eq_true rfl⟩ rfl hl.1 rfl (Nat.le_of_ble_eq_true rfl) dX12_line_307) (fun H locs hI => ?_)
          obtain ⟨q62, h63, hm⟩ := g_b hm
          refine backI X hI (runV X hI (ctX12_atHand N 102 (6 : Int32) q60 (ly_self (la_102 hn)) hn _ _ h63 _) mdX12_228 (la_99 hn) rfl ⟨rfl, rfl⟩ ⟨Nat.le_of_ble_eq_true rfl, Nat.le_of_ble_eq_true rfl⟩ rfl hl.1 rfl (Nat.le_of_ble_eq_true rfl) dX12_line_310) (fun H locs hI => ?_)
          obtain ⟨g64, hm⟩ := g_no hm
          refine sI X hI (la_108 hn) g64 dX12_line_313 (fun H locs hI => ?_)
          refine lv_aload_n hx hb dX12_line_314 rfl (lv_at hl 1 rfl) ?_
          obtain ⟨q65, h66, hm⟩ := g_b hm
          refine backV X hI (runV X hI (ctX12_goOn N  hn _ _ h66 _) mdX12_232 (la_99 hn) rfl ⟨rfl, rfl⟩ ⟨Nat.le_of_ble_eq_true rfl, Nat.le_of_ble_eq_true rfl⟩ rfl hl.1 rfl (Nat.le_of_ble_eq_true rfl) dX12_line_315) (fun H locs hI => ?_)
          refine lv_aload_n hx hb dX12_line_318 rfl (lv_at hl 1 rfl) ?_
          refine gR X hI fdX12_37 (la_99 hn) rf12_11 dX12_line_319 ?_
          refine lv_iload hx hb dX12_line_322 (lv_at hl 0 rfl) ?_
          refine lv_aload_n hx hb dX12_line_324 rfl (lv_at hl 1 rfl) ?_
          obtain ⟨q67, h68, hm⟩ := g_b hm
          refine backI X hI (runV X hI (ctX12_tubAhead N  hn _ _ h68 _) mdX12_252 (la_99 hn) rfl ⟨rfl, rfl⟩ ⟨Nat.le_of_ble_eq_true rfl, Nat.le_of_ble_eq_true rfl⟩ rfl hl.1 rfl (Nat.le_of_ble_eq_true rfl) dX12_line_325) (fun H locs hI => ?_)
          obtain ⟨g69, hm⟩ := g_no hm
          refine sI X hI (la_109 hn) g69 dX12_line_328 (fun H locs hI => ?_)
          refine lv_aload_n hx hb dX12_line_329 rfl (lv_at hl 1 rfl) ?_
          refine gR X hI fdX12_40 (la_99 hn) rf12_12 dX12_line_330 ?_
          refine lv_iload hx hb dX12_line_333 (lv_at hl 0 rfl) ?_
          refine lv_aload_n hx hb dX12_line_335 rfl (lv_at hl 1 rfl) ?_
          refine lv_iconst (v := (0 : Int32)) hx hb dX12_line_336 (by decide) ?_
          refine lv_bipush (v := (99 : Int32)) hx hb dX12_line_337 (by decide) ?_
          obtain ⟨q70, h71, hm⟩ := g_b hm
          refine backI X hI (runV X hI (ctX12_numeral N (0 : Int32) (99 : Int32)  hn _ _ h71 _) mdX12_244 (la_99 hn) rfl ⟨rfl, rfl⟩ ⟨Nat.le_of_ble_eq_true rfl, Nat.le_of_ble_eq_true rfl⟩ rfl hl.1 rfl (Nat.le_of_ble_eq_true rfl) dX12_line_339) (fun H locs hI => ?_)
          obtain ⟨g72, hm⟩ := g_no hm
          refine sI X hI (la_110 hn) g72 dX12_line_342 (fun H locs hI => ?_)
          refine lv_aload_n hx hb dX12_line_343 rfl (lv_at hl 1 rfl) ?_
          refine lv_iconst (v := (2 : Int32)) hx hb dX12_line_344 (by decide) ?_
          refine lv_aload_n hx hb dX12_line_345 rfl (lv_at hl 1 rfl) ?_
          refine lv_iconst (v := (2 : Int32)) hx hb dX12_line_346 (by decide) ?_
          obtain ⟨q73, h74, hm⟩ := g_b hm
          refine backI X hI (runV X hI (ctX12_fresher (2 : Int32)  hn _ _ h74 _) mdX12_224 (la_99 hn) rfl ⟨rfl, rfl⟩ ⟨Nat.le_of_ble_eq_true rfl, Nat.le_of_ble_eq_true rfl⟩ rfl hl.1 rfl (Nat.le_of_ble_eq_true rfl) dX12_line_347) (fun H locs hI => ?_)
          refine lv_iconst (v := (1 : Int32)) hx hb dX12_line_350 (by decide) ?_
          refine lv_iadd hx hb dX12_line_351 ?_
          obtain ⟨q75, h76, hm⟩ := g_b hm
          refine backV X hI (runV X hI (ctX12_reads (2 : Int32) (q73 + (1 : Int32))  hn _ _ h76 _) mdX12_248 (la_99 hn) rfl ⟨rfl, rfl⟩ ⟨Nat.le_of_ble_eq_true rfl, Nat.le_of_ble_eq_true rfl⟩ rfl hl.1 rfl (Nat.le_of_ble_eq_true rfl) dX12_line_352) (fun H locs hI => ?_)
          refine lv_goto (tgt := 464) hx hb dX12_line_355 (by decide) ?_
          exact tX12_line_464 N hn X hr fin  q75 H locs ls hI (lv_sub hl [1] rfl) hm
        · have hm := g_f c57 hm
          by_cases c77 : x1 = (3 : Int32)
          · have hm := g_t c77 hm
            refine lv_tableIn (tgt := 358) hx hb dX12_line_96 (by rw [c77]; decide) (by rw [c77]; decide) (off := 262) (by rw [c77]; decide) (by decide) ?_
            refine lv_bipush (v := (10 : Int32)) hx hb dX12_line_358 (by decide) ?_
            refine lv_aload_n hx hb dX12_line_360 rfl (lv_at hl 0 rfl) ?_
            refine lv_iconst (v := (3 : Int32)) hx hb dX12_line_361 (by decide) ?_
            obtain ⟨q78, h79, hm⟩ := g_b hm
            refine backI X hI (runV X hI (ctX12_fresher (3 : Int32)  hn _ _ h79 _) mdX12_224 (la_99 hn) rfl ⟨rfl, rfl⟩ ⟨Nat.le_of_ble_eq_true rfl, Nat.le_of_ble_eq_true rfl⟩ rfl hl.1 rfl (Nat.le_of_ble_eq_true rfl) dX12_line_362) (fun H locs hI => ?_)
            refine lv_iadd hx hb dX12_line_365 ?_
            refine lv_istore (lv' := [(5, .int ((10 : Int32) + q78)), (0, .ref (ad 99)), (1, .int x1)]) hx hb dX12_line_366 hl (by decide) rfl (fun ls hl => ?_)
            refine lv_aload_n hx hb dX12_line_368 rfl (lv_at hl 1 rfl) ?_
            refine gR X hI fdX12_43 (la_99 hn) rf12_13 dX12_line_369 ?_
            refine lv_iload hx hb dX12_line_372 (lv_at hl 0 rfl) ?_
            refine lv_aload_n hx hb dX12_line_374 rfl (lv_at hl 1 rfl) ?_
            obtain ⟨q80, h81, hm⟩ := g_b hm
            refine backI X hI (runV X hI (ctX12_tubAhead N  hn _ _ h81 _) mdX12_252 (la_99 hn) rfl ⟨rfl, rfl⟩ ⟨Nat.le_of_ble_eq_true rfl, Nat.le_of_ble_eq_true rfl⟩ rfl hl.1 rfl (Nat.le_of_ble_eq_true rfl) dX12_line_375) (fun H locs hI => ?_)
            obtain ⟨g82, hm⟩ := g_no hm
            refine sI X hI (la_111 hn) g82 dX12_line_378 (fun H locs hI => ?_)
            refine lv_aload_n hx hb dX12_line_379 rfl (lv_at hl 1 rfl) ?_
            refine gR X hI fdX12_46 (la_99 hn) rf12_14 dX12_line_380 ?_
            refine lv_iload hx hb dX12_line_383 (lv_at hl 0 rfl) ?_
            refine lv_aload_n hx hb dX12_line_385 rfl (lv_at hl 1 rfl) ?_
            refine lv_iconst (v := (1 : Int32)) hx hb dX12_line_386 (by decide) ?_
            refine lv_bipush (v := (9 : Int32)) hx hb dX12_line_387 (by decide) ?_
            obtain ⟨q83, h84, hm⟩ := g_b hm
            refine backI X hI (runV X hI (ctX12_numeral N (1 : Int32) (9 : Int32)  hn _ _ h84 _) mdX12_244 (la_99 hn) rfl ⟨rfl, rfl⟩ ⟨Nat.le_of_ble_eq_true rfl, Nat.le_of_ble_eq_true rfl⟩ rfl hl.1 rfl (Nat.le_of_ble_eq_true rfl) dX12_line_389) (fun H locs hI => ?_)
            obtain ⟨g85, hm⟩ := g_no hm
            refine sI X hI (la_112 hn) g85 dX12_line_392 (fun H locs hI => ?_)
            refine lv_aload_n hx hb dX12_line_393 rfl (lv_at hl 1 rfl) ?_
            refine gR X hI fdX12_49 (la_99 hn) rf12_15 dX12_line_394 ?_
            refine lv_iload hx hb dX12_line_397 (lv_at hl 0 rfl) ?_
            refine lv_aload_n hx hb dX12_line_399 rfl (lv_at hl 1 rfl) ?_
            refine lv_iconst (v := (0 : Int32)) hx hb dX12_line_400 (by decide) ?_
            refine lv_bipush (v := (99 : Int32)) hx hb dX12_line_401 (by decide) ?_
            obtain ⟨q86, h87, hm⟩ := g_b hm
            refine backI X hI (runV X hI (ctX12_numeral N (0 : Int32) (99 : Int32)  hn _ _ h87 _) mdX12_244 (la_99 hn) rfl ⟨rfl, rfl⟩ ⟨Nat.le_of_ble_eq_true rfl, Nat.le_of_ble_eq_true rfl⟩ rfl hl.1 rfl (Nat.le_of_ble_eq_true rfl) dX12_line_403) (fun H locs hI => ?_)
            obtain ⟨g88, hm⟩ := g_no hm
            refine sI X hI (la_113 hn) g88 dX12_line_406 (fun H locs hI => ?_)
            refine lv_aload_n hx hb dX12_line_407 rfl (lv_at hl 1 rfl) ?_
            refine lv_iconst (v := (3 : Int32)) hx hb dX12_line_408 (by decide) ?_
            refine lv_aload_n hx hb dX12_line_409 rfl (lv_at hl 1 rfl) ?_
            refine lv_iconst (v := (3 : Int32)) hx hb dX12_line_410 (by decide) ?_
            obtain ⟨q89, h90, hm⟩ := g_b hm
            refine backI X hI (runV X hI (ctX12_fresher (3 : Int32)  hn _ _ h90 _) mdX12_224 (la_99 hn) rfl ⟨rfl, rfl⟩ ⟨Nat.le_of_ble_eq_true rfl, Nat.le_of_ble_eq_true rfl⟩ rfl hl.1 rfl (Nat.le_of_ble_eq_true rfl) dX12_line_411) (fun H locs hI => ?_)
            refine lv_iconst (v := (1 : Int32)) hx hb dX12_line_414 (by decide) ?_
            refine lv_iadd hx hb dX12_line_415 ?_
            obtain ⟨q91, h92, hm⟩ := g_b hm
            refine backV X hI (runV X hI (ctX12_reads (3 : Int32) (q89 + (1 : Int32))  hn _ _ h92 _) mdX12_248 (la_99 hn) rfl ⟨rfl, rfl⟩ ⟨Nat.le_of_ble_eq_true rfl, Nat.le_of_ble_eq_true rfl⟩ rfl hl.1 rfl (Nat.le_of_ble_eq_true rfl) dX12_line_416) (fun H locs hI => ?_)
            refine lv_goto (tgt := 464) hx hb dX12_line_419 (by decide) ?_
            exact tX12_line_464 N hn X hr fin  q91 H locs ls hI (lv_sub hl [1] rfl) hm
          · have hm := g_f c77 hm
            by_cases c93 : x1 = (4 : Int32)
            · have hm := g_t c93 hm
              refine lv_tableIn (tgt := 422) hx hb dX12_line_96 (by rw [c93]; decide) (by rw [c93]; decide) (off := 326) (by rw [c93]; decide) (by decide) ?_
              refine lv_aload_n hx hb dX12_line_422 rfl (lv_at hl 0 rfl) ?_
              obtain ⟨q94, h95, hm⟩ := g_b hm
              refine backV X hI (runV X hI (ctX12_pipeLine N  hn _ _ h95 _) mdX12_255 (la_99 hn) rfl ⟨rfl, rfl⟩ ⟨Nat.le_of_ble_eq_true rfl, Nat.le_of_ble_eq_true rfl⟩ rfl hl.1 rfl (Nat.le_of_ble_eq_true rfl) dX12_line_423) (fun H locs hI => ?_)
              refine lv_goto (tgt := 464) hx hb dX12_line_426 (by decide) ?_
              exact tX12_line_464 N hn X hr fin  q94 H locs ls hI (lv_sub hl [0] rfl) hm
            · have hm := g_f c93 hm
              by_cases c96 : x1 = (5 : Int32)
              · have hm := g_t c96 hm
                refine lv_tableIn (tgt := 429) hx hb dX12_line_96 (by rw [c96]; decide) (by rw [c96]; decide) (off := 333) (by rw [c96]; decide) (by decide) ?_
                refine lv_aload_n hx hb dX12_line_429 rfl (lv_at hl 0 rfl) ?_
                refine lv_iconst (v := (5 : Int32)) hx hb dX12_line_430 (by decide) ?_
                refine lv_aload_n hx hb dX12_line_431 rfl (lv_at hl 0 rfl) ?_
                refine lv_iconst (v := (0 : Int32)) hx hb dX12_line_432 (by decide) ?_
                refine lv_bipush (v := (100 : Int32)) hx hb dX12_line_433 (by decide) ?_
                obtain ⟨q97, h98, hm⟩ := g_b hm
                refine backI X hI (runV X hI (ctX12_numeral N (0 : Int32) (100 : Int32)  hn _ _ h98 _) mdX12_244 (la_99 hn) rfl ⟨rfl, rfl⟩ ⟨Nat.le_of_ble_eq_true rfl, Nat.le_of_ble_eq_true rfl⟩ rfl hl.1 rfl (Nat.le_of_ble_eq_true rfl) dX12_line_435) (fun H locs hI => ?_)
                obtain ⟨q99, h100, hm⟩ := g_b hm
                refine backV X hI (runV X hI (ctX12_reads (5 : Int32) q97.1  hn _ _ h100 _) mdX12_248 (la_99 hn) rfl ⟨rfl, rfl⟩ ⟨Nat.le_of_ble_eq_true rfl, Nat.le_of_ble_eq_true rfl⟩ rfl hl.1 rfl (Nat.le_of_ble_eq_true rfl) dX12_line_438) (fun H locs hI => ?_)
                refine lv_goto (tgt := 464) hx hb dX12_line_441 (by decide) ?_
                exact tX12_line_464 N hn X hr fin  q99 H locs ls hI (lv_sub hl [0] rfl) hm
              · have hm := g_f c96 hm
                by_cases c101 : x1 = (6 : Int32)
                · have hm := g_t c101 hm
                  refine lv_tableIn (tgt := 444) hx hb dX12_line_96 (by rw [c101]; decide) (by rw [c101]; decide) (off := 348) (by rw [c101]; decide) (by decide) ?_
                  refine lv_aload_n hx hb dX12_line_444 rfl (lv_at hl 0 rfl) ?_
                  refine lv_bipush (v := (6 : Int32)) hx hb dX12_line_445 (by decide) ?_
                  refine lv_aload_n hx hb dX12_line_447 rfl (lv_at hl 0 rfl) ?_
                  refine lv_iconst (v := (0 : Int32)) hx hb dX12_line_448 (by decide) ?_
                  refine lv_ldc hx hb X.2.2.2.1 (X.2.2.2.2.1 _ kcX12_192) dX12_line_449 ?_
                  obtain ⟨q102, h103, hm⟩ := g_b hm
                  refine backI X hI (runV X hI (ctX12_numeral N (0 : Int32) (99999 : Int32)  hn _ _ h103 _) mdX12_244 (la_99 hn) rfl ⟨rfl, rfl⟩ ⟨Nat.le_of_ble_eq_true rfl, Nat.le_of_ble_eq_true rfl⟩ rfl hl.1 rfl (Nat.le_of_ble_eq_true rfl) dX12_line_451) (fun H locs hI => ?_)
                  obtain ⟨q104, h105, hm⟩ := g_b hm
                  refine backV X hI (runV X hI (ctX12_reads (6 : Int32) q102.1  hn _ _ h105 _) mdX12_248 (la_99 hn) rfl ⟨rfl, rfl⟩ ⟨Nat.le_of_ble_eq_true rfl, Nat.le_of_ble_eq_true rfl⟩ rfl hl.1 rfl (Nat.le_of_ble_eq_true rfl) dX12_line_454) (fun H locs hI => ?_)
                  refine lv_goto (tgt := 464) hx hb dX12_line_457 (by decide) ?_
                  exact tX12_line_464 N hn X hr fin  q104 H locs ls hI (lv_sub hl [0] rfl) hm
                · have hm := g_f c101 hm
                  have ec13 := lv_neT c13 (a := 0) (by decide)
                  have ec39 := lv_neT c39 (a := 1) (by decide)
                  have ec57 := lv_neT c57 (a := 2) (by decide)
                  have ec77 := lv_neT c77 (a := 3) (by decide)
                  have ec93 := lv_neT c93 (a := 4) (by decide)
                  have ec96 := lv_neT c96 (a := 5) (by decide)
                  have ec101 := lv_neT c101 (a := 6) (by decide)
                  refine lv_tableOut (tgt := 460) hx hb dX12_line_96 (by omega) (by decide) ?_
                  refine lv_aload_n hx hb dX12_line_460 rfl (lv_at hl 0 rfl) ?_
                  obtain ⟨q106, h107, hm⟩ := g_b hm
                  refine backV X hI (runV X hI (ctX12_lawLine N  hn _ _ h107 _) mdX12_258 (la_99 hn) rfl ⟨rfl, rfl⟩ ⟨Nat.le_of_ble_eq_true rfl, Nat.le_of_ble_eq_true rfl⟩ rfl hl.1 rfl (Nat.le_of_ble_eq_true rfl) dX12_line_461) (fun H locs hI => ?_)
                  exact tX12_line_464 N hn X hr fin  q106 H locs ls hI (lv_sub hl [0] rfl) hm
  · have hm := g_f c10 hm
    exact rV X hI hr (g_1 hm) dX12_line_78
def fX12_line_54 (N : Nat) (x1 : Int32) (m : Mem) : Option Mem := if (((m.1 99 23) >>> (x1 &&& 31)) &&& (1 : Int32)) = (1 : Int32) then ((fX12_wrong (3 : Int32) m).bind (fun q108 => fX12_line_71 N x1 q108)) else (fX12_line_71 N x1 m)
set_option maxHeartbeats 4000000 in
set_option maxRecDepth 100000 in
theorem tX12_line_54 (N : Nat) {l : Launch} {D : va_G} {ca : Nat → ClassId} {ad : Nat → Nat} {p : Program} {e : Env} {s : State} {mm : MethodId} {args : Array Value} {below : List Frame} {meth : Method} {c : Code}  (hn : HNr ca) (X : CX p s mm args meth c cX12_line 6 RX12 D ca ad (WA ca ad s.heap.size)) (hr : meth.sig.returnType = none) (fin : Mem)  : ∀ (x1 : Int32) (m : Mem) (H : Heap) (locs : List Loc) (ls : Array Slot), IW D ca ad (WA ca ad s.heap.size) s m H locs → lv_has ls 6 [(0, .ref (ad 99)), (1, .int x1)] → fX12_line_54 N x1 m = some fin → W p l e rmX12_line s mm args below meth c H locs 0 0 (MQ below (QV D ca ad s.heap.size fin) args s 0 0 (WA ca ad s.heap.size)) (F0 mm 54 ls []) := by
  have hx := X.1
  have hb := X.2.1
  intro x1 m H locs ls hI hl hm
  have hm : (if (((m.1 99 23) >>> (x1 &&& 31)) &&& (1 : Int32)) = (1 : Int32) then ((fX12_wrong (3 : Int32) m).bind (fun q108 => fX12_line_71 N x1 q108)) else (fX12_line_71 N x1 m)) = some fin := hm
  refine lv_aload_n hx hb dX12_line_54 rfl (lv_at hl 0 rfl) ?_
  refine gI X hI fdX12_238 (la_99 hn) dX12_line_55 ?_
  refine lv_iload_n hx hb dX12_line_58 rfl (lv_at hl 1 rfl) ?_
  refine lv_ishr hx hb dX12_line_59 ?_
  refine lv_iconst (v := (1 : Int32)) hx hb dX12_line_60 (by decide) ?_
  refine lv_iand hx hb dX12_line_61 ?_
  refine lv_iconst (v := (1 : Int32)) hx hb dX12_line_62 (by decide) ?_
  refine lv_icmp_ne (tgt := 71) hx hb dX12_line_63 (by decide) (fun c9 => ?_) (fun c9 => ?_)
  · have hm := g_f c9 hm
    exact tX12_line_71 N hn X hr fin  x1 m H locs ls hI (lv_sub hl [0, 1] rfl) hm
  · have hm := g_t c9 hm
    refine lv_aload_n hx hb dX12_line_66 rfl (lv_at hl 0 rfl) ?_
    refine lv_iconst (v := (3 : Int32)) hx hb dX12_line_67 (by decide) ?_
    obtain ⟨q108, h109, hm⟩ := g_b hm
    refine backV X hI (runV X hI (ctX12_wrong (3 : Int32)  hn _ _ h109 _) mdX12_217 (la_99 hn) rfl ⟨rfl, rfl⟩ ⟨Nat.le_of_ble_eq_true rfl, Nat.le_of_ble_eq_true rfl⟩ rfl hl.1 rfl (Nat.le_of_ble_eq_true rfl) dX12_line_68) (fun H locs hI => ?_)
    exact tX12_line_71 N hn X hr fin  x1 q108 H locs ls hI (lv_sub hl [0, 1] rfl) hm
def fX12_line (N : Nat)  (m : Mem) : Option Mem := if (m.1 99 28) = 0 then (if (m.1 99 29) ≤ (7 : Int32) then ((fX12_isFull (m.1 99 29) m).bind (fun q5 => if q5 = 0 then (if (m.1 99 29) = (5 : Int32) then (fX12_line_54 N (m.1 99 29) m) else (if (m.1 99 29) = (6 : Int32) then (fX12_line_54 N (m.1 99 29) m) else (fX12_line_71 N (m.1 99 29) m))) else ((fX12_wrong (2 : Int32) m).bind (fun q111 => fX12_line_71 N (m.1 99 29) q111)))) else (fX12_line_16 N m)) else (fX12_line_16 N m)
set_option maxHeartbeats 4000000 in
set_option maxRecDepth 100000 in
theorem ctX12_line {l : Launch} {D : va_G} {ca : Nat → ClassId} {ad : Nat → Nat} (N : Nat)   (hn : HNr ca) (m : Mem) (fin : Mem) (hm : fX12_line N m = some fin) : CV l D ca ad yX12_line cwX12_line rmX12_line [.ref (ad 99)] m fin := by
  refine start (by decide) (Nat.le_of_ble_eq_true rfl) ?_
  intro p e s mm args below meth c H locs ls X hI hr hl
  have X : CX p s mm args meth c cX12_line 6 RX12 D ca ad (WA ca ad s.heap.size) := X
  have hx := X.1
  have hb := X.2.1
  have hl : lv_has ls 6 [(0, .ref (ad 99))] := hl
  have hm : (if (m.1 99 28) = 0 then (if (m.1 99 29) ≤ (7 : Int32) then ((fX12_isFull (m.1 99 29) m).bind (fun q5 => if q5 = 0 then (if (m.1 99 29) = (5 : Int32) then (fX12_line_54 N (m.1 99 29) m) else (if (m.1 99 29) = (6 : Int32) then (fX12_line_54 N (m.1 99 29) m) else (fX12_line_71 N (m.1 99 29) m))) else ((fX12_wrong (2 : Int32) m).bind (fun q111 => fX12_line_71 N (m.1 99 29) q111)))) else (fX12_line_16 N m)) else (fX12_line_16 N m)) = some fin := hm
  refine lv_aload_n hx hb dX12_line_0 rfl (lv_at hl 0 rfl) ?_
  refine gI X hI fdX12_173 (la_99 hn) dX12_line_1 ?_
  refine lv_if_ne (tgt := 16) hx hb dX12_line_4 (by decide) (fun c1 => ?_) (fun c1 => ?_)
  · have hm := g_f c1 hm
    exact tX12_line_16 N hn X hr fin  m H locs ls hI (lv_sub hl [0] rfl) hm
  · have hm := g_t c1 hm
    refine lv_aload_n hx hb dX12_line_7 rfl (lv_at hl 0 rfl) ?_
    refine gI X hI fdX12_183 (la_99 hn) dX12_line_8 ?_
    refine lv_bipush (v := (7 : Int32)) hx hb dX12_line_11 (by decide) ?_
    refine lv_icmp_le (tgt := 22) hx hb dX12_line_13 (by decide) (fun c4 => ?_) (fun c4 => ?_)
    · have hm := g_t c4 hm
      refine lv_aload_n hx hb dX12_line_22 rfl (lv_at hl 0 rfl) ?_
      refine gI X hI fdX12_183 (la_99 hn) dX12_line_23 ?_
      refine lv_istore_n (lv' := [(1, .int (m.1 99 29)), (0, .ref (ad 99))]) hx hb dX12_line_26 rfl hl (by decide) rfl (fun ls hl => ?_)
      refine lv_aload_n hx hb dX12_line_27 rfl (lv_at hl 1 rfl) ?_
      refine lv_iload_n hx hb dX12_line_28 rfl (lv_at hl 0 rfl) ?_
      obtain ⟨q5, h6, hm⟩ := g_b hm
      refine backI X hI (runV X hI (ctX12_isFull (m.1 99 29)  hn _ _ h6 _) mdX12_235 (la_99 hn) rfl ⟨rfl, rfl⟩ ⟨Nat.le_of_ble_eq_true rfl, Nat.le_of_ble_eq_true rfl⟩ rfl hl.1 rfl (Nat.le_of_ble_eq_true rfl) dX12_line_29) (fun H locs hI => ?_)
      refine lv_if_eq (tgt := 43) hx hb dX12_line_32 (by decide) (fun c7 => ?_) (fun c7 => ?_)
      · have hm := g_t c7 hm
        refine lv_iload_n hx hb dX12_line_43 rfl (lv_at hl 0 rfl) ?_
        refine lv_iconst (v := (5 : Int32)) hx hb dX12_line_44 (by decide) ?_
        refine lv_icmp_eq (tgt := 54) hx hb dX12_line_45 (by decide) (fun c8 => ?_) (fun c8 => ?_)
        · have hm := g_t c8 hm
          exact tX12_line_54 N hn X hr fin  (m.1 99 29) m H locs ls hI (lv_sub hl [1, 0] rfl) hm
        · have hm := g_f c8 hm
          refine lv_iload_n hx hb dX12_line_48 rfl (lv_at hl 0 rfl) ?_
          refine lv_bipush (v := (6 : Int32)) hx hb dX12_line_49 (by decide) ?_
          refine lv_icmp_ne (tgt := 71) hx hb dX12_line_51 (by decide) (fun c110 => ?_) (fun c110 => ?_)
          · have hm := g_f c110 hm
            exact tX12_line_71 N hn X hr fin  (m.1 99 29) m H locs ls hI (lv_sub hl [1, 0] rfl) hm
          · have hm := g_t c110 hm
            exact tX12_line_54 N hn X hr fin  (m.1 99 29) m H locs ls hI (lv_sub hl [1, 0] rfl) hm
      · have hm := g_f c7 hm
        refine lv_aload_n hx hb dX12_line_35 rfl (lv_at hl 1 rfl) ?_
        refine lv_iconst (v := (2 : Int32)) hx hb dX12_line_36 (by decide) ?_
        obtain ⟨q111, h112, hm⟩ := g_b hm
        refine backV X hI (runV X hI (ctX12_wrong (2 : Int32)  hn _ _ h112 _) mdX12_217 (la_99 hn) rfl ⟨rfl, rfl⟩ ⟨Nat.le_of_ble_eq_true rfl, Nat.le_of_ble_eq_true rfl⟩ rfl hl.1 rfl (Nat.le_of_ble_eq_true rfl) dX12_line_37) (fun H locs hI => ?_)
        refine lv_goto (tgt := 71) hx hb dX12_line_40 (by decide) ?_
        exact tX12_line_71 N hn X hr fin  (m.1 99 29) q111 H locs ls hI (lv_sub hl [1, 0] rfl) hm
    · have hm := g_f c4 hm
      exact tX12_line_16 N hn X hr fin  m H locs ls hI (lv_sub hl [0] rfl) hm
abbrev rmX12_match : Room := { frames := 19, cells := 0, slots := 0, locals := 595 }
abbrev cwX12_match : Cond := .code yX12_match cX12_match 2 (some .int)
theorem cmX12_match : cwX12_match ∈ BIG := (tb8 (List.mem_of_getElem? (i := 88) rfl) rfl)
def fX12_match (N : Nat) (x1 : Int32) (m : Mem) : Option (Int32 × Mem) := if x1 < 0 then (some ((-1 : Int32), (mI m 99 0 (0 : Int32)))) else (if x1 ≤ (7 : Int32) then ((fMat N (0 : Int32) (0 : Int32) (0 : Int32) (0 : Int32) (mI (mI (mI m 99 0 (0 : Int32)) 99 56 (-1 : Int32)) 99 57 (0 : Int32))).bind (fun q3 => if x1 = (6 : Int32) then (some ((q3.1 99 56), q3)) else (if x1 = (7 : Int32) then (some ((q3.1 99 57), q3)) else (if (q3.1 101 0) ≤ x1 then (some ((-2 : Int32), q3)) else (if x1 < 0 ∨ 6 ≤ x1.toNatClampNeg then none else (some ((q3.1 135 x1.toNatClampNeg), q3))))))) else (some ((-1 : Int32), (mI m 99 0 (0 : Int32)))))
set_option maxHeartbeats 4000000 in
set_option maxRecDepth 100000 in
theorem ctX12_match {l : Launch} {D : va_G} {ca : Nat → ClassId} {ad : Nat → Nat} (N : Nat) (x1 : Int32)  (hn : HNr ca) (m : Mem) (fin : (Int32 × Mem)) (hm : fX12_match N x1 m = some fin) : CI l D ca ad yX12_match cwX12_match rmX12_match [.ref (ad 99), .int x1] m fin.1 fin.2 := by
  refine start (by decide) (Nat.le_of_ble_eq_true rfl) ?_
  intro p e s mm args below meth c H locs ls X hI hr hl
  have X : CX p s mm args meth c cX12_match 2 RX12 D ca ad (WA ca ad s.heap.size) := X
  have hx := X.1
  have hb := X.2.1
  have hl : lv_has ls 2 [(0, .ref (ad 99)), (1, .int x1)] := hl
  have hm : (if x1 < 0 then (some ((-1 : Int32), (mI m 99 0 (0 : Int32)))) else (if x1 ≤ (7 : Int32) then ((fMat N (0 : Int32) (0 : Int32) (0 : Int32) (0 : Int32) (mI (mI (mI m 99 0 (0 : Int32)) 99 56 (-1 : Int32)) 99 57 (0 : Int32))).bind (fun q3 => if x1 = (6 : Int32) then (some ((q3.1 99 56), q3)) else (if x1 = (7 : Int32) then (some ((q3.1 99 57), q3)) else (if (q3.1 101 0) ≤ x1 then (some ((-2 : Int32), q3)) else (if x1 < 0 ∨ 6 ≤ x1.toNatClampNeg then none else (some ((q3.1 135 x1.toNatClampNeg), q3))))))) else (some ((-1 : Int32), (mI m 99 0 (0 : Int32)))))) = some fin := hm
  refine lv_aload_n hx hb dX12_match_0 rfl (lv_at hl 0 rfl) ?_
  refine lv_iconst (v := (0 : Int32)) hx hb dX12_match_1 (by decide) ?_
  refine pI X hI fpX12_154 (la_99 hn) dX12_match_2 (fun H locs hI => ?_)
  refine lv_iload_n hx hb dX12_match_5 rfl (lv_at hl 1 rfl) ?_
  refine lv_if_lt (tgt := 15) hx hb dX12_match_6 (by decide) (fun c1 => ?_) (fun c1 => ?_)
  · have hm := g_t c1 hm
    refine lv_iconst (v := (-1 : Int32)) hx hb dX12_match_15 (by decide) ?_
    exact rI X hI hr (g_p hm).1 (g_p hm).2 dX12_match_16
  · have hm := g_f c1 hm
    refine lv_iload_n hx hb dX12_match_9 rfl (lv_at hl 1 rfl) ?_
    refine lv_bipush (v := (7 : Int32)) hx hb dX12_match_10 (by decide) ?_
    refine lv_icmp_le (tgt := 17) hx hb dX12_match_12 (by decide) (fun c2 => ?_) (fun c2 => ?_)
    · have hm := g_t c2 hm
      refine lv_aload_n hx hb dX12_match_17 rfl (lv_at hl 0 rfl) ?_
      refine lv_iconst (v := (-1 : Int32)) hx hb dX12_match_18 (by decide) ?_
      refine pI X hI fpX12_452 (la_99 hn) dX12_match_19 (fun H locs hI => ?_)
      refine lv_aload_n hx hb dX12_match_22 rfl (lv_at hl 0 rfl) ?_
      refine lv_iconst (v := (0 : Int32)) hx hb dX12_match_23 (by decide) ?_
      refine pI X hI fpX12_455 (la_99 hn) dX12_match_24 (fun H locs hI => ?_)
      refine lv_aload_n hx hb dX12_match_27 rfl (lv_at hl 0 rfl) ?_
      refine lv_iconst (v := (0 : Int32)) hx hb dX12_match_28 (by decide) ?_
      refine lv_iconst (v := (0 : Int32)) hx hb dX12_match_29 (by decide) ?_
      refine lv_iconst (v := (0 : Int32)) hx hb dX12_match_30 (by decide) ?_
      refine lv_iconst (v := (0 : Int32)) hx hb dX12_match_31 (by decide) ?_
      obtain ⟨q3, h4, hm⟩ := g_b hm
      refine backV X hI (runV X hI (ctMat N (0 : Int32) (0 : Int32) (0 : Int32) (0 : Int32)  hn _ _ h4 _) mdX12_458 (la_99 hn) rfl ⟨rfl, rfl⟩ ⟨Nat.le_of_ble_eq_true rfl, Nat.le_of_ble_eq_true rfl⟩ rfl hl.1 rfl (Nat.le_of_ble_eq_true rfl) dX12_match_32) (fun H locs hI => ?_)
      refine lv_iload_n hx hb dX12_match_35 rfl (lv_at hl 1 rfl) ?_
      refine lv_bipush (v := (6 : Int32)) hx hb dX12_match_36 (by decide) ?_
      refine lv_icmp_ne (tgt := 48) hx hb dX12_match_38 (by decide) (fun c5 => ?_) (fun c5 => ?_)
      · have hm := g_f c5 hm
        refine lv_iload_n hx hb dX12_match_48 rfl (lv_at hl 1 rfl) ?_
        refine lv_bipush (v := (7 : Int32)) hx hb dX12_match_49 (by decide) ?_
        refine lv_icmp_ne (tgt := 61) hx hb dX12_match_51 (by decide) (fun c6 => ?_) (fun c6 => ?_)
        · have hm := g_f c6 hm
          refine lv_iload_n hx hb dX12_match_61 rfl (lv_at hl 1 rfl) ?_
          refine lv_aload_n hx hb dX12_match_62 rfl (lv_at hl 0 rfl) ?_
          refine gR X hI fdX12_13 (la_99 hn) rf12_3 dX12_match_63 ?_
          refine lv_iconst (v := (0 : Int32)) hx hb dX12_match_66 (by decide) ?_
          refine aIc (j := 0) X hI (la_101 hn) (by decide) (by decide) dX12_match_67 ?_
          refine lv_icmp_ge (tgt := 80) hx hb dX12_match_68 (by decide) (fun c7 => ?_) (fun c7 => ?_)
          · have hm := g_t c7 hm
            refine lv_bipush (v := (-2 : Int32)) hx hb dX12_match_80 (by decide) ?_
            exact rI X hI hr (g_p hm).1 (g_p hm).2 dX12_match_82
          · have hm := g_f c7 hm
            refine lv_aload_n hx hb dX12_match_71 rfl (lv_at hl 0 rfl) ?_
            refine gR X hI fdX12_123 (la_99 hn) rf12_55 dX12_match_72 ?_
            refine lv_iload_n hx hb dX12_match_75 rfl (lv_at hl 1 rfl) ?_
            obtain ⟨g8, hm⟩ := g_no hm
            refine aI X hI (la_135 hn) g8 dX12_match_76 ?_
            refine lv_goto (tgt := 82) hx hb dX12_match_77 (by decide) ?_
            exact rI X hI hr (g_p hm).1 (g_p hm).2 dX12_match_82
        · have hm := g_t c6 hm
          refine lv_aload_n hx hb dX12_match_54 rfl (lv_at hl 0 rfl) ?_
          refine gI X hI fdX12_455 (la_99 hn) dX12_match_55 ?_
          refine lv_goto (tgt := 82) hx hb dX12_match_58 (by decide) ?_
          exact rI X hI hr (g_p hm).1 (g_p hm).2 dX12_match_82
      · have hm := g_t c5 hm
        refine lv_aload_n hx hb dX12_match_41 rfl (lv_at hl 0 rfl) ?_
        refine gI X hI fdX12_452 (la_99 hn) dX12_match_42 ?_
        refine lv_goto (tgt := 82) hx hb dX12_match_45 (by decide) ?_
        exact rI X hI hr (g_p hm).1 (g_p hm).2 dX12_match_82
    · have hm := g_f c2 hm
      refine lv_iconst (v := (-1 : Int32)) hx hb dX12_match_15 (by decide) ?_
      exact rI X hI hr (g_p hm).1 (g_p hm).2 dX12_match_16
abbrev rmX12_text : Room := { frames := 213, cells := 0, slots := 0, locals := 8316 }
abbrev cwX12_text : Cond := .code yX12_text cX12_text 3 (some .int)
theorem cmX12_text : cwX12_text ∈ BIG := (tb7 (List.mem_of_getElem? (i := 5) rfl) rfl)
def fX12_text_149 (N : Nat)  (m : Mem) : Option (Int32 × Mem) := if ((mI (mI m 99 32 (m.1 99 30)) 99 33 ((mI m 99 32 (m.1 99 30)).1 99 31)).1 99 30) = 0 then ((fX12_half N 101 (mI (mI m 99 32 (m.1 99 30)) 99 33 ((mI m 99 32 (m.1 99 30)).1 99 31))).bind (fun q6 => (fX12_half N 102 q6).bind (fun q8 => (fX12_half N 103 q8).bind (fun q10 => (fX12_half N 104 q10).bind (fun q12 => (fX12_half N 105 q12).bind (fun q14 => (fX12_half N 106 q14).bind (fun q16 => (fX12_half N 107 q16).bind (fun q18 => (fX12_half N 108 q18).bind (fun q20 => (fX12_half N 109 q20).bind (fun q22 => (fX12_half N 110 q22).bind (fun q24 => (fX12_half N 111 q24).bind (fun q26 => (fX12_half N 112 q26).bind (fun q28 => (fX12_half N 113 q28).bind (fun q30 => (fX12_half N 114 q30).bind (fun q32 => (fX12_half N 115 q32).bind (fun q34 => (fX12_half N 116 q34).bind (fun q36 => (fX12_half N 117 q36).bind (fun q38 => (fX12_half N 118 q38).bind (fun q40 => (fX12_half N 119 q40).bind (fun q42 => (fX12_half N 120 q42).bind (fun q44 => (fX12_begins N (mI (mI (mI (mI q44 99 58 (0 : Int32)) 99 59 (-1 : Int32)) 99 50 (0 : Int32)) 99 51 (0 : Int32))).bind (fun q46 => some ((q46.1 99 24), q46))))))))))))))))))))))) else (some ((-1 : Int32), (mI (mI m 99 32 (m.1 99 30)) 99 33 ((mI m 99 32 (m.1 99 30)).1 99 31))))
set_option maxHeartbeats 4000000 in
set_option maxRecDepth 100000 in
theorem tX12_text_149 (N : Nat) {l : Launch} {D : va_G} {ca : Nat → ClassId} {ad : Nat → Nat} {p : Program} {e : Env} {s : State} {mm : MethodId} {args : Array Value} {below : List Frame} {meth : Method} {c : Code}  (hn : HNr ca) (X : CX p s mm args meth c cX12_text 3 RX12 D ca ad (WA ca ad s.heap.size)) (hr : meth.sig.returnType = (some .int)) (fin : (Int32 × Mem))  : ∀  (m : Mem) (H : Heap) (locs : List Loc) (ls : Array Slot), IW D ca ad (WA ca ad s.heap.size) s m H locs → lv_has ls 3 [(0, .ref (ad 99))] → fX12_text_149 N m = some fin → W p l e rmX12_text s mm args below meth c H locs 0 0 (MQ below (QI D ca ad s.heap.size fin.1 fin.2) args s 0 0 (WA ca ad s.heap.size)) (F0 mm 149 ls []) := by
  have hx := X.1
  have hb := X.2.1
  intro m H locs ls hI hl hm
  have hm : (if ((mI (mI m 99 32 (m.1 99 30)) 99 33 ((mI m 99 32 (m.1 99 30)).1 99 31)).1 99 30) = 0 then ((fX12_half N 101 (mI (mI m 99 32 (m.1 99 30)) 99 33 ((mI m 99 32 (m.1 99 30)).1 99 31))).bind (fun q6 => (fX12_half N 102 q6).bind (fun q8 => (fX12_half N 103 q8).bind (fun q10 => (fX12_half N 104 q10).bind (fun q12 => (fX12_half N 105 q12).bind (fun q14 => (fX12_half N 106 q14).bind (fun q16 => (fX12_half N 107 q16).bind (fun q18 => (fX12_half N 108 q18).bind (fun q20 => (fX12_half N 109 q20).bind (fun q22 => (fX12_half N 110 q22).bind (fun q24 => (fX12_half N 111 q24).bind (fun q26 => (fX12_half N 112 q26).bind (fun q28 => (fX12_half N 113 q28).bind (fun q30 => (fX12_half N 114 q30).bind (fun q32 => (fX12_half N 115 q32).bind (fun q34 => (fX12_half N 116 q34).bind (fun q36 => (fX12_half N 117 q36).bind (fun q38 => (fX12_half N 118 q38).bind (fun q40 => (fX12_half N 119 q40).bind (fun q42 => (fX12_half N 120 q42).bind (fun q44 => (fX12_begins N (mI (mI (mI (mI q44 99 58 (0 : Int32)) 99 59 (-1 : Int32)) 99 50 (0 : Int32)) 99 51 (0 : Int32))).bind (fun q46 => some ((q46.1 99 24), q46))))))))))))))))))))))) else (some ((-1 : Int32), (mI (mI m 99 32 (m.1 99 30)) 99 33 ((mI m 99 32 (m.1 99 30)).1 99 31))))) = some fin := hm
  refine lv_aload_n hx hb dX12_text_149 rfl (lv_at hl 0 rfl) ?_
  refine lv_aload_n hx hb dX12_text_150 rfl (lv_at hl 0 rfl) ?_
  refine gI X hI fdX12_208 (la_99 hn) dX12_text_151 ?_
  refine pI X hI fpX12_303 (la_99 hn) dX12_text_154 (fun H locs hI => ?_)
  refine lv_aload_n hx hb dX12_text_157 rfl (lv_at hl 0 rfl) ?_
  refine lv_aload_n hx hb dX12_text_158 rfl (lv_at hl 0 rfl) ?_
  refine gI X hI fdX12_211 (la_99 hn) dX12_text_159 ?_
  refine pI X hI fpX12_73 (la_99 hn) dX12_text_162 (fun H locs hI => ?_)
  refine lv_aload_n hx hb dX12_text_165 rfl (lv_at hl 0 rfl) ?_
  refine gI X hI fdX12_208 (la_99 hn) dX12_text_166 ?_
  refine lv_if_eq (tgt := 174) hx hb dX12_text_169 (by decide) (fun c5 => ?_) (fun c5 => ?_)
  · have hm := g_t c5 hm
    refine lv_aload_n hx hb dX12_text_174 rfl (lv_at hl 0 rfl) ?_
    refine gR X hI fdX12_13 (la_99 hn) rf12_3 dX12_text_175 ?_
    obtain ⟨q6, h7, hm⟩ := g_b hm
    refine backV X hI (runS X hI (ctX12_half N 101 (ly_self (la_101 hn)) hn _ _ h7 _) msX12_306 ⟨rfl, rfl⟩ ⟨Nat.le_of_ble_eq_true rfl, Nat.le_of_ble_eq_true rfl⟩ rfl hl.1 rfl (Nat.le_of_ble_eq_true rfl) dX12_text_178) (fun H locs hI => ?_)
    refine lv_aload_n hx hb dX12_text_181 rfl (lv_at hl 0 rfl) ?_
    refine gR X hI fdX12_16 (la_99 hn) rf12_4 dX12_text_182 ?_
    obtain ⟨q8, h9, hm⟩ := g_b hm
    refine backV X hI (runS X hI (ctX12_half N 102 (ly_self (la_102 hn)) hn _ _ h9 _) msX12_306 ⟨rfl, rfl⟩ ⟨Nat.le_of_ble_eq_true rfl, Nat.le_of_ble_eq_true rfl⟩ rfl hl.1 rfl (Nat.le_of_ble_eq_true rfl) dX12_text_185) (fun H locs hI => ?_)
    refine lv_aload_n hx hb dX12_text_188 rfl (lv_at hl 0 rfl) ?_
    refine gR X hI fdX12_19 (la_99 hn) rf12_5 dX12_text_189 ?_
    obtain ⟨q10, h11, hm⟩ := g_b hm
    refine backV X hI (runS X hI (ctX12_half N 103 (ly_self (la_103 hn)) hn _ _ h11 _) msX12_306 ⟨rfl, rfl⟩ ⟨Nat.le_of_ble_eq_true rfl, Nat.le_of_ble_eq_true rfl⟩ rfl hl.1 rfl (Nat.le_of_ble_eq_true rfl) dX12_text_192) (fun H locs hI => ?_)
    refine lv_aload_n hx hb dX12_text_195 rfl (lv_at hl 0 rfl) ?_
    refine gR X hI fdX12_22 (la_99 hn) rf12_6 dX12_text_196 ?_
    obtain ⟨q12, h13, hm⟩ := g_b hm
    refine backV X hI (runS X hI (ctX12_half N 104 (ly_self (la_104 hn)) hn _ _ h13 _) msX12_306 ⟨rfl, rfl⟩ ⟨Nat.le_of_ble_eq_true rfl, Nat.le_of_ble_eq_true rfl⟩ rfl hl.1 rfl (Nat.le_of_ble_eq_true rfl) dX12_text_199) (fun H locs hI => ?_)
    refine lv_aload_n hx hb dX12_text_202 rfl (lv_at hl 0 rfl) ?_
    refine gR X hI fdX12_25 (la_99 hn) rf12_7 dX12_text_203 ?_
    obtain ⟨q14, h15, hm⟩ := g_b hm
    refine backV X hI (runS X hI (ctX12_half N 105 (ly_self (la_105 hn)) hn _ _ h15 _) msX12_306 ⟨rfl, rfl⟩ ⟨Nat.le_of_ble_eq_true rfl, Nat.le_of_ble_eq_true rfl⟩ rfl hl.1 rfl (Nat.le_of_ble_eq_true rfl) dX12_text_206) (fun H locs hI => ?_)
    refine lv_aload_n hx hb dX12_text_209 rfl (lv_at hl 0 rfl) ?_
    refine gR X hI fdX12_28 (la_99 hn) rf12_8 dX12_text_210 ?_
    obtain ⟨q16, h17, hm⟩ := g_b hm
    refine backV X hI (runS X hI (ctX12_half N 106 (ly_self (la_106 hn)) hn _ _ h17 _) msX12_306 ⟨rfl, rfl⟩ ⟨Nat.le_of_ble_eq_true rfl, Nat.le_of_ble_eq_true rfl⟩ rfl hl.1 rfl (Nat.le_of_ble_eq_true rfl) dX12_text_213) (fun H locs hI => ?_)
    refine lv_aload_n hx hb dX12_text_216 rfl (lv_at hl 0 rfl) ?_
    refine gR X hI fdX12_31 (la_99 hn) rf12_9 dX12_text_217 ?_
    obtain ⟨q18, h19, hm⟩ := g_b hm
    refine backV X hI (runS X hI (ctX12_half N 107 (ly_self (la_107 hn)) hn _ _ h19 _) msX12_306 ⟨rfl, rfl⟩ ⟨Nat.le_of_ble_eq_true rfl, Nat.le_of_ble_eq_true rfl⟩ rfl hl.1 rfl (Nat.le_of_ble_eq_true rfl) dX12_text_220) (fun H locs hI => ?_)
    refine lv_aload_n hx hb dX12_text_223 rfl (lv_at hl 0 rfl) ?_
    refine gR X hI fdX12_34 (la_99 hn) rf12_10 dX12_text_224 ?_
    obtain ⟨q20, h21, hm⟩ := g_b hm
    refine backV X hI (runS X hI (ctX12_half N 108 (ly_self (la_108 hn)) hn _ _ h21 _) msX12_306 ⟨rfl, rfl⟩ ⟨Nat.le_of_ble_eq_true rfl, Nat.le_of_ble_eq_true rfl⟩ rfl hl.1 rfl (Nat.le_of_ble_eq_true rfl) dX12_text_227) (fun H locs hI => ?_)
    refine lv_aload_n hx hb dX12_text_230 rfl (lv_at hl 0 rfl) ?_
    refine gR X hI fdX12_37 (la_99 hn) rf12_11 dX12_text_231 ?_
    obtain ⟨q22, h23, hm⟩ := g_b hm
    refine backV X hI (runS X hI (ctX12_half N 109 (ly_self (la_109 hn)) hn _ _ h23 _) msX12_306 ⟨rfl, rfl⟩ ⟨Nat.le_of_ble_eq_true rfl, Nat.le_of_ble_eq_true rfl⟩ rfl hl.1 rfl (Nat.le_of_ble_eq_true rfl) dX12_text_234) (fun H locs hI => ?_)
    refine lv_aload_n hx hb dX12_text_237 rfl (lv_at hl 0 rfl) ?_
    refine gR X hI fdX12_40 (la_99 hn) rf12_12 dX12_text_238 ?_
    obtain ⟨q24, h25, hm⟩ := g_b hm
    refine backV X hI (runS X hI (ctX12_half N 110 (ly_self (la_110 hn)) hn _ _ h25 _) msX12_306 ⟨rfl, rfl⟩ ⟨Nat.le_of_ble_eq_true rfl, Nat.le_of_ble_eq_true rfl⟩ rfl hl.1 rfl (Nat.le_of_ble_eq_true rfl) dX12_text_241) (fun H locs hI => ?_)
    refine lv_aload_n hx hb dX12_text_244 rfl (lv_at hl 0 rfl) ?_
    refine gR X hI fdX12_43 (la_99 hn) rf12_13 dX12_text_245 ?_
    obtain ⟨q26, h27, hm⟩ := g_b hm
    refine backV X hI (runS X hI (ctX12_half N 111 (ly_self (la_111 hn)) hn _ _ h27 _) msX12_306 ⟨rfl, rfl⟩ ⟨Nat.le_of_ble_eq_true rfl, Nat.le_of_ble_eq_true rfl⟩ rfl hl.1 rfl (Nat.le_of_ble_eq_true rfl) dX12_text_248) (fun H locs hI => ?_)
    refine lv_aload_n hx hb dX12_text_251 rfl (lv_at hl 0 rfl) ?_
    refine gR X hI fdX12_46 (la_99 hn) rf12_14 dX12_text_252 ?_
    obtain ⟨q28, h29, hm⟩ := g_b hm
    refine backV X hI (runS X hI (ctX12_half N 112 (ly_self (la_112 hn)) hn _ _ h29 _) msX12_306 ⟨rfl, rfl⟩ ⟨Nat.le_of_ble_eq_true rfl, Nat.le_of_ble_eq_true rfl⟩ rfl hl.1 rfl (Nat.le_of_ble_eq_true rfl) dX12_text_255) (fun H locs hI => ?_)
    refine lv_aload_n hx hb dX12_text_258 rfl (lv_at hl 0 rfl) ?_
    refine gR X hI fdX12_49 (la_99 hn) rf12_15 dX12_text_259 ?_
    obtain ⟨q30, h31, hm⟩ := g_b hm
    refine backV X hI (runS X hI (ctX12_half N 113 (ly_self (la_113 hn)) hn _ _ h31 _) msX12_306 ⟨rfl, rfl⟩ ⟨Nat.le_of_ble_eq_true rfl, Nat.le_of_ble_eq_true rfl⟩ rfl hl.1 rfl (Nat.le_of_ble_eq_true rfl) dX12_text_262) (fun H locs hI => ?_)
    refine lv_aload_n hx hb dX12_text_265 rfl (lv_at hl 0 rfl) ?_
    refine gR X hI fdX12_52 (la_99 hn) rf12_16 dX12_text_266 ?_
    obtain ⟨q32, h33, hm⟩ := g_b hm
    refine backV X hI (runS X hI (ctX12_half N 114 (ly_self (la_114 hn)) hn _ _ h33 _) msX12_306 ⟨rfl, rfl⟩ ⟨Nat.le_of_ble_eq_true rfl, Nat.le_of_ble_eq_true rfl⟩ rfl hl.1 rfl (Nat.le_of_ble_eq_true rfl) dX12_text_269) (fun H locs hI => ?_)
    refine lv_aload_n hx hb dX12_text_272 rfl (lv_at hl 0 rfl) ?_
    refine gR X hI fdX12_55 (la_99 hn) rf12_17 dX12_text_273 ?_
    obtain ⟨q34, h35, hm⟩ := g_b hm
    refine backV X hI (runS X hI (ctX12_half N 115 (ly_self (la_115 hn)) hn _ _ h35 _) msX12_306 ⟨rfl, rfl⟩ ⟨Nat.le_of_ble_eq_true rfl, Nat.le_of_ble_eq_true rfl⟩ rfl hl.1 rfl (Nat.le_of_ble_eq_true rfl) dX12_text_276) (fun H locs hI => ?_)
    refine lv_aload_n hx hb dX12_text_279 rfl (lv_at hl 0 rfl) ?_
    refine gR X hI fdX12_58 (la_99 hn) rf12_18 dX12_text_280 ?_
    obtain ⟨q36, h37, hm⟩ := g_b hm
    refine backV X hI (runS X hI (ctX12_half N 116 (ly_self (la_116 hn)) hn _ _ h37 _) msX12_306 ⟨rfl, rfl⟩ ⟨Nat.le_of_ble_eq_true rfl, Nat.le_of_ble_eq_true rfl⟩ rfl hl.1 rfl (Nat.le_of_ble_eq_true rfl) dX12_text_283) (fun H locs hI => ?_)
    refine lv_aload_n hx hb dX12_text_286 rfl (lv_at hl 0 rfl) ?_
    refine gR X hI fdX12_61 (la_99 hn) rf12_19 dX12_text_287 ?_
    obtain ⟨q38, h39, hm⟩ := g_b hm
    refine backV X hI (runS X hI (ctX12_half N 117 (ly_self (la_117 hn)) hn _ _ h39 _) msX12_306 ⟨rfl, rfl⟩ ⟨Nat.le_of_ble_eq_true rfl, Nat.le_of_ble_eq_true rfl⟩ rfl hl.1 rfl (Nat.le_of_ble_eq_true rfl) dX12_text_290) (fun H locs hI => ?_)
    refine lv_aload_n hx hb dX12_text_293 rfl (lv_at hl 0 rfl) ?_
    refine gR X hI fdX12_64 (la_99 hn) rf12_20 dX12_text_294 ?_
    obtain ⟨q40, h41, hm⟩ := g_b hm
    refine backV X hI (runS X hI (ctX12_half N 118 (ly_self (la_118 hn)) hn _ _ h41 _) msX12_306 ⟨rfl, rfl⟩ ⟨Nat.le_of_ble_eq_true rfl, Nat.le_of_ble_eq_true rfl⟩ rfl hl.1 rfl (Nat.le_of_ble_eq_true rfl) dX12_text_297) (fun H locs hI => ?_)
    refine lv_aload_n hx hb dX12_text_300 rfl (lv_at hl 0 rfl) ?_
    refine gR X hI fdX12_67 (la_99 hn) rf12_21 dX12_text_301 ?_
    obtain ⟨q42, h43, hm⟩ := g_b hm
    refine backV X hI (runS X hI (ctX12_half N 119 (ly_self (la_119 hn)) hn _ _ h43 _) msX12_306 ⟨rfl, rfl⟩ ⟨Nat.le_of_ble_eq_true rfl, Nat.le_of_ble_eq_true rfl⟩ rfl hl.1 rfl (Nat.le_of_ble_eq_true rfl) dX12_text_304) (fun H locs hI => ?_)
    refine lv_aload_n hx hb dX12_text_307 rfl (lv_at hl 0 rfl) ?_
    refine gR X hI fdX12_70 (la_99 hn) rf12_22 dX12_text_308 ?_
    obtain ⟨q44, h45, hm⟩ := g_b hm
    refine backV X hI (runS X hI (ctX12_half N 120 (ly_self (la_120 hn)) hn _ _ h45 _) msX12_306 ⟨rfl, rfl⟩ ⟨Nat.le_of_ble_eq_true rfl, Nat.le_of_ble_eq_true rfl⟩ rfl hl.1 rfl (Nat.le_of_ble_eq_true rfl) dX12_text_311) (fun H locs hI => ?_)
    refine lv_aload_n hx hb dX12_text_314 rfl (lv_at hl 0 rfl) ?_
    refine lv_iconst (v := (0 : Int32)) hx hb dX12_text_315 (by decide) ?_
    refine pI X hI fpX12_310 (la_99 hn) dX12_text_316 (fun H locs hI => ?_)
    refine lv_aload_n hx hb dX12_text_319 rfl (lv_at hl 0 rfl) ?_
    refine lv_iconst (v := (-1 : Int32)) hx hb dX12_text_320 (by decide) ?_
    refine pI X hI fpX12_126 (la_99 hn) dX12_text_321 (fun H locs hI => ?_)
    refine lv_aload_n hx hb dX12_text_324 rfl (lv_at hl 0 rfl) ?_
    refine lv_iconst (v := (0 : Int32)) hx hb dX12_text_325 (by decide) ?_
    refine pZ X hI fpX12_313 (la_99 hn) (by decide) dX12_text_326 (fun H locs hI => ?_)
    refine lv_aload_n hx hb dX12_text_329 rfl (lv_at hl 0 rfl) ?_
    refine lv_iconst (v := (0 : Int32)) hx hb dX12_text_330 (by decide) ?_
    refine pI X hI fpX12_317 (la_99 hn) dX12_text_331 (fun H locs hI => ?_)
    refine lv_aload_n hx hb dX12_text_334 rfl (lv_at hl 0 rfl) ?_
    obtain ⟨q46, h47, hm⟩ := g_b hm
    refine backV X hI (runV X hI (ctX12_begins N  hn _ _ h47 _) mdX12_151 (la_99 hn) rfl ⟨rfl, rfl⟩ ⟨Nat.le_of_ble_eq_true rfl, Nat.le_of_ble_eq_true rfl⟩ rfl hl.1 rfl (Nat.le_of_ble_eq_true rfl) dX12_text_335) (fun H locs hI => ?_)
    refine lv_aload_n hx hb dX12_text_338 rfl (lv_at hl 0 rfl) ?_
    refine gI X hI fdX12_264 (la_99 hn) dX12_text_339 ?_
    exact rI X hI hr (g_p hm).1 (g_p hm).2 dX12_text_342
  · have hm := g_f c5 hm
    refine lv_iconst (v := (-1 : Int32)) hx hb dX12_text_172 (by decide) ?_
    exact rI X hI hr (g_p hm).1 (g_p hm).2 dX12_text_173
def fX12_text_127 (N : Nat) (k149 : Mem → Option (Int32 × Mem)) : Nat → Mem → Option (Int32 × Mem)
  | 0, _ => none
  | n + 1, m => if (m.1 99 30) = 0 then (if (m.1 99 28) = (4 : Int32) then (k149 m) else ((fX12_line N m).bind (fun q50 => fX12_text_127 N k149 n q50))) else (k149 m)
set_option maxHeartbeats 4000000 in
set_option maxRecDepth 100000 in
theorem tX12_text_127 (N : Nat) {l : Launch} {D : va_G} {ca : Nat → ClassId} {ad : Nat → Nat} {p : Program} {e : Env} {s : State} {mm : MethodId} {args : Array Value} {below : List Frame} {meth : Method} {c : Code} {k149 : Mem → Option (Int32 × Mem)} (hn : HNr ca) (X : CX p s mm args meth c cX12_text 3 RX12 D ca ad (WA ca ad s.heap.size)) (hr : meth.sig.returnType = (some .int)) (fin : (Int32 × Mem)) (hk149 : ∀  (m : Mem) (H : Heap) (locs : List Loc) (ls : Array Slot), IW D ca ad (WA ca ad s.heap.size) s m H locs → lv_has ls 3 [(0, .ref (ad 99))] → k149 m = some fin → W p l e rmX12_text s mm args below meth c H locs 0 0 (MQ below (QI D ca ad s.heap.size fin.1 fin.2) args s 0 0 (WA ca ad s.heap.size)) (F0 mm 149 ls [])) : ∀ (n : Nat)  (m : Mem) (H : Heap) (locs : List Loc) (ls : Array Slot), IW D ca ad (WA ca ad s.heap.size) s m H locs → lv_has ls 3 [(0, .ref (ad 99))] → fX12_text_127 N k149 n m = some fin → W p l e rmX12_text s mm args below meth c H locs 0 0 (MQ below (QI D ca ad s.heap.size fin.1 fin.2) args s 0 0 (WA ca ad s.heap.size)) (F0 mm 127 ls []) := by
  have hx := X.1
  have hb := X.2.1
  intro n
  induction n with
  | zero => intro m H locs ls hI hl hm
            exact absurd hm (by intro q; cases q)
  | succ n ih =>
    intro m H locs ls hI hl hm
    have hm : (if (m.1 99 30) = 0 then (if (m.1 99 28) = (4 : Int32) then (k149 m) else ((fX12_line N m).bind (fun q50 => fX12_text_127 N k149 n q50))) else (k149 m)) = some fin := hm
    refine lv_aload_n hx hb dX12_text_127 rfl (lv_at hl 0 rfl) ?_
    refine gI X hI fdX12_208 (la_99 hn) dX12_text_128 ?_
    refine lv_if_ne (tgt := 149) hx hb dX12_text_131 (by decide) (fun c48 => ?_) (fun c48 => ?_)
    · have hm := g_f c48 hm
      exact hk149 m H locs ls hI (lv_sub hl [0] rfl) hm
    · have hm := g_t c48 hm
      refine lv_aload_n hx hb dX12_text_134 rfl (lv_at hl 0 rfl) ?_
      refine gI X hI fdX12_173 (la_99 hn) dX12_text_135 ?_
      refine lv_iconst (v := (4 : Int32)) hx hb dX12_text_138 (by decide) ?_
      refine lv_icmp_eq (tgt := 149) hx hb dX12_text_139 (by decide) (fun c49 => ?_) (fun c49 => ?_)
      · have hm := g_t c49 hm
        exact hk149 m H locs ls hI (lv_sub hl [0] rfl) hm
      · have hm := g_f c49 hm
        refine lv_aload_n hx hb dX12_text_142 rfl (lv_at hl 0 rfl) ?_
        obtain ⟨q50, h51, hm⟩ := g_b hm
        refine backV X hI (runV X hI (ctX12_line N  hn _ _ h51 _) mdX12_300 (la_99 hn) rfl ⟨rfl, rfl⟩ ⟨Nat.le_of_ble_eq_true rfl, Nat.le_of_ble_eq_true rfl⟩ rfl hl.1 rfl (Nat.le_of_ble_eq_true rfl) dX12_text_143) (fun H locs hI => ?_)
        refine lv_goto (tgt := 127) hx hb dX12_text_146 (by decide) ?_
        exact ih q50 H locs ls hI (lv_sub hl [0] rfl) hm
def fX12_text_103 (N : Nat)  (m : Mem) : Option (Int32 × Mem) := (fX12_token N (mI (mI (mI (mI m 99 23 (0 : Int32)) 99 24 (0 : Int32)) 99 34 (0 : Int32)) 99 35 (0 : Int32))).bind (fun q3 => fX12_text_127 N (fX12_text_149 N) N q3)
set_option maxHeartbeats 4000000 in
set_option maxRecDepth 100000 in
theorem tX12_text_103 (N : Nat) {l : Launch} {D : va_G} {ca : Nat → ClassId} {ad : Nat → Nat} {p : Program} {e : Env} {s : State} {mm : MethodId} {args : Array Value} {below : List Frame} {meth : Method} {c : Code}  (hn : HNr ca) (X : CX p s mm args meth c cX12_text 3 RX12 D ca ad (WA ca ad s.heap.size)) (hr : meth.sig.returnType = (some .int)) (fin : (Int32 × Mem))  : ∀  (m : Mem) (H : Heap) (locs : List Loc) (ls : Array Slot), IW D ca ad (WA ca ad s.heap.size) s m H locs → lv_has ls 3 [(0, .ref (ad 99))] → fX12_text_103 N m = some fin → W p l e rmX12_text s mm args below meth c H locs 0 0 (MQ below (QI D ca ad s.heap.size fin.1 fin.2) args s 0 0 (WA ca ad s.heap.size)) (F0 mm 103 ls []) := by
  have hx := X.1
  have hb := X.2.1
  intro m H locs ls hI hl hm
  have hm : ((fX12_token N (mI (mI (mI (mI m 99 23 (0 : Int32)) 99 24 (0 : Int32)) 99 34 (0 : Int32)) 99 35 (0 : Int32))).bind (fun q3 => fX12_text_127 N (fX12_text_149 N) N q3)) = some fin := hm
  refine lv_aload_n hx hb dX12_text_103 rfl (lv_at hl 0 rfl) ?_
  refine lv_iconst (v := (0 : Int32)) hx hb dX12_text_104 (by decide) ?_
  refine pI X hI fpX12_238 (la_99 hn) dX12_text_105 (fun H locs hI => ?_)
  refine lv_aload_n hx hb dX12_text_108 rfl (lv_at hl 0 rfl) ?_
  refine lv_iconst (v := (0 : Int32)) hx hb dX12_text_109 (by decide) ?_
  refine pI X hI fpX12_264 (la_99 hn) dX12_text_110 (fun H locs hI => ?_)
  refine lv_aload_n hx hb dX12_text_113 rfl (lv_at hl 0 rfl) ?_
  refine lv_iconst (v := (0 : Int32)) hx hb dX12_text_114 (by decide) ?_
  refine pI X hI fpX12_297 (la_99 hn) dX12_text_115 (fun H locs hI => ?_)
  refine lv_aload_n hx hb dX12_text_118 rfl (lv_at hl 0 rfl) ?_
  refine lv_iconst (v := (0 : Int32)) hx hb dX12_text_119 (by decide) ?_
  refine pI X hI fpX12_270 (la_99 hn) dX12_text_120 (fun H locs hI => ?_)
  refine lv_aload_n hx hb dX12_text_123 rfl (lv_at hl 0 rfl) ?_
  obtain ⟨q3, h4, hm⟩ := g_b hm
  refine backV X hI (runV X hI (ctX12_token N  hn _ _ h4 _) mdX12_214 (la_99 hn) rfl ⟨rfl, rfl⟩ ⟨Nat.le_of_ble_eq_true rfl, Nat.le_of_ble_eq_true rfl⟩ rfl hl.1 rfl (Nat.le_of_ble_eq_true rfl) dX12_text_124) (fun H locs hI => ?_)
  exact tX12_text_127 N hn X hr fin (tX12_text_149 N hn X hr fin ) N q3 H locs ls hI (lv_sub hl [0] rfl) hm
def fX12_text_77 (N : Nat) (k103 : Mem → Option (Int32 × Mem)) : Nat → Int32 → Mem → Option (Int32 × Mem)
  | 0, _, _ => none
  | n + 1, x2, m => if (6 : Int32) ≤ x2 then (k103 m) else (if x2 < 0 ∨ 6 ≤ x2.toNatClampNeg then none else (if x2 < 0 ∨ 6 ≤ x2.toNatClampNeg then none else (fX12_text_77 N k103 n (x2 + (1 : Int32)) (mI (mI m 117 x2.toNatClampNeg (0 : Int32)) 118 x2.toNatClampNeg (0 : Int32)))))
set_option maxHeartbeats 4000000 in
set_option maxRecDepth 100000 in
theorem tX12_text_77 (N : Nat) {l : Launch} {D : va_G} {ca : Nat → ClassId} {ad : Nat → Nat} {p : Program} {e : Env} {s : State} {mm : MethodId} {args : Array Value} {below : List Frame} {meth : Method} {c : Code} {k103 : Mem → Option (Int32 × Mem)} (hn : HNr ca) (X : CX p s mm args meth c cX12_text 3 RX12 D ca ad (WA ca ad s.heap.size)) (hr : meth.sig.returnType = (some .int)) (fin : (Int32 × Mem)) (hk103 : ∀  (m : Mem) (H : Heap) (locs : List Loc) (ls : Array Slot), IW D ca ad (WA ca ad s.heap.size) s m H locs → lv_has ls 3 [(0, .ref (ad 99))] → k103 m = some fin → W p l e rmX12_text s mm args below meth c H locs 0 0 (MQ below (QI D ca ad s.heap.size fin.1 fin.2) args s 0 0 (WA ca ad s.heap.size)) (F0 mm 103 ls [])) : ∀ (n : Nat) (x2 : Int32) (m : Mem) (H : Heap) (locs : List Loc) (ls : Array Slot), IW D ca ad (WA ca ad s.heap.size) s m H locs → lv_has ls 3 [(0, .ref (ad 99)), (2, .int x2)] → fX12_text_77 N k103 n x2 m = some fin → W p l e rmX12_text s mm args below meth c H locs 0 0 (MQ below (QI D ca ad s.heap.size fin.1 fin.2) args s 0 0 (WA ca ad s.heap.size)) (F0 mm 77 ls []) := by
  have hx := X.1
  have hb := X.2.1
  intro n
  induction n with
  | zero => intro x2 m H locs ls hI hl hm
            exact absurd hm (by intro q; cases q)
  | succ n ih =>
    intro x2 m H locs ls hI hl hm
    have hm : (if (6 : Int32) ≤ x2 then (k103 m) else (if x2 < 0 ∨ 6 ≤ x2.toNatClampNeg then none else (if x2 < 0 ∨ 6 ≤ x2.toNatClampNeg then none else (fX12_text_77 N k103 n (x2 + (1 : Int32)) (mI (mI m 117 x2.toNatClampNeg (0 : Int32)) 118 x2.toNatClampNeg (0 : Int32)))))) = some fin := hm
    refine lv_iload_n hx hb dX12_text_77 rfl (lv_at hl 1 rfl) ?_
    refine lv_bipush (v := (6 : Int32)) hx hb dX12_text_78 (by decide) ?_
    refine lv_icmp_ge (tgt := 103) hx hb dX12_text_80 (by decide) (fun c52 => ?_) (fun c52 => ?_)
    · have hm := g_t c52 hm
      exact hk103 m H locs ls hI (lv_sub hl [0] rfl) hm
    · have hm := g_f c52 hm
      refine lv_aload_n hx hb dX12_text_83 rfl (lv_at hl 0 rfl) ?_
      refine gR X hI fdX12_61 (la_99 hn) rf12_19 dX12_text_84 ?_
      refine lv_iload_n hx hb dX12_text_87 rfl (lv_at hl 1 rfl) ?_
      refine lv_iconst (v := (0 : Int32)) hx hb dX12_text_88 (by decide) ?_
      obtain ⟨g53, hm⟩ := g_no hm
      refine sI X hI (la_117 hn) g53 dX12_text_89 (fun H locs hI => ?_)
      refine lv_aload_n hx hb dX12_text_90 rfl (lv_at hl 0 rfl) ?_
      refine gR X hI fdX12_64 (la_99 hn) rf12_20 dX12_text_91 ?_
      refine lv_iload_n hx hb dX12_text_94 rfl (lv_at hl 1 rfl) ?_
      refine lv_iconst (v := (0 : Int32)) hx hb dX12_text_95 (by decide) ?_
      obtain ⟨g54, hm⟩ := g_no hm
      refine sI X hI (la_118 hn) g54 dX12_text_96 (fun H locs hI => ?_)
      refine lv_iinc (v := (x2 + (1 : Int32))) (lv' := [(2, .int (x2 + (1 : Int32))), (0, .ref (ad 99))]) hx hb dX12_text_97 hl (k := 1) rfl rfl (by decide) rfl (fun ls hl => ?_)
      refine lv_goto (tgt := 77) hx hb dX12_text_100 (by decide) ?_
      exact ih (x2 + (1 : Int32)) (mI (mI m 117 x2.toNatClampNeg (0 : Int32)) 118 x2.toNatClampNeg (0 : Int32)) H locs ls hI (lv_sub hl [1, 0] rfl) hm
def fX12_text_75 (N : Nat)  (m : Mem) : Option (Int32 × Mem) := fX12_text_77 N (fX12_text_103 N) N (3 : Int32) m
set_option maxHeartbeats 4000000 in
set_option maxRecDepth 100000 in
theorem tX12_text_75 (N : Nat) {l : Launch} {D : va_G} {ca : Nat → ClassId} {ad : Nat → Nat} {p : Program} {e : Env} {s : State} {mm : MethodId} {args : Array Value} {below : List Frame} {meth : Method} {c : Code}  (hn : HNr ca) (X : CX p s mm args meth c cX12_text 3 RX12 D ca ad (WA ca ad s.heap.size)) (hr : meth.sig.returnType = (some .int)) (fin : (Int32 × Mem))  : ∀  (m : Mem) (H : Heap) (locs : List Loc) (ls : Array Slot), IW D ca ad (WA ca ad s.heap.size) s m H locs → lv_has ls 3 [(0, .ref (ad 99))] → fX12_text_75 N m = some fin → W p l e rmX12_text s mm args below meth c H locs 0 0 (MQ below (QI D ca ad s.heap.size fin.1 fin.2) args s 0 0 (WA ca ad s.heap.size)) (F0 mm 75 ls []) := by
  have hx := X.1
  have hb := X.2.1
  intro m H locs ls hI hl hm
  have hm : (fX12_text_77 N (fX12_text_103 N) N (3 : Int32) m) = some fin := hm
  refine lv_iconst (v := (3 : Int32)) hx hb dX12_text_75 (by decide) ?_
  refine lv_istore_n (lv' := [(2, .int (3 : Int32)), (0, .ref (ad 99))]) hx hb dX12_text_76 rfl hl (by decide) rfl (fun ls hl => ?_)
  exact tX12_text_77 N hn X hr fin (tX12_text_103 N hn X hr fin ) N (3 : Int32) m H locs ls hI (lv_sub hl [1, 0] rfl) hm
def fX12_text_66 (N : Nat) (k47 : Int32 → Mem → Option (Int32 × Mem)) (x2 : Int32) (y0 : Int32) (y1 : Int32) (m : Mem) : Option (Int32 × Mem) := (fX12_reads y1 y0 m).bind (fun q57 => k47 (x2 + (1 : Int32)) q57)
set_option maxHeartbeats 4000000 in
set_option maxRecDepth 100000 in
theorem tX12_text_66 (N : Nat) {l : Launch} {D : va_G} {ca : Nat → ClassId} {ad : Nat → Nat} {p : Program} {e : Env} {s : State} {mm : MethodId} {args : Array Value} {below : List Frame} {meth : Method} {c : Code} {k47 : Int32 → Mem → Option (Int32 × Mem)} (hn : HNr ca) (X : CX p s mm args meth c cX12_text 3 RX12 D ca ad (WA ca ad s.heap.size)) (hr : meth.sig.returnType = (some .int)) (fin : (Int32 × Mem)) (hk47 : ∀ (x2 : Int32) (m : Mem) (H : Heap) (locs : List Loc) (ls : Array Slot), IW D ca ad (WA ca ad s.heap.size) s m H locs → lv_has ls 3 [(0, .ref (ad 99)), (2, .int x2)] → k47 x2 m = some fin → W p l e rmX12_text s mm args below meth c H locs 0 0 (MQ below (QI D ca ad s.heap.size fin.1 fin.2) args s 0 0 (WA ca ad s.heap.size)) (F0 mm 47 ls [])) : ∀ (x2 : Int32) (y0 : Int32) (y1 : Int32) (m : Mem) (H : Heap) (locs : List Loc) (ls : Array Slot), IW D ca ad (WA ca ad s.heap.size) s m H locs → lv_has ls 3 [(0, .ref (ad 99)), (2, .int x2)] → fX12_text_66 N k47 x2 y0 y1 m = some fin → W p l e rmX12_text s mm args below meth c H locs 0 0 (MQ below (QI D ca ad s.heap.size fin.1 fin.2) args s 0 0 (WA ca ad s.heap.size)) (F0 mm 66 ls [.int y0, .int y1, .ref (ad 99)]) := by
  have hx := X.1
  have hb := X.2.1
  intro x2 y0 y1 m H locs ls hI hl hm
  have hm : ((fX12_reads y1 y0 m).bind (fun q57 => k47 (x2 + (1 : Int32)) q57)) = some fin := hm
  obtain ⟨q57, h58, hm⟩ := g_b hm
  refine backV X hI (runV X hI (ctX12_reads y1 y0  hn _ _ h58 _) mdX12_248 (la_99 hn) rfl ⟨rfl, rfl⟩ ⟨Nat.le_of_ble_eq_true rfl, Nat.le_of_ble_eq_true rfl⟩ rfl hl.1 rfl (Nat.le_of_ble_eq_true rfl) dX12_text_66) (fun H locs hI => ?_)
  refine lv_iinc (v := (x2 + (1 : Int32))) (lv' := [(2, .int (x2 + (1 : Int32))), (0, .ref (ad 99))]) hx hb dX12_text_69 hl (k := 1) rfl rfl (by decide) rfl (fun ls hl => ?_)
  refine lv_goto (tgt := 47) hx hb dX12_text_72 (by decide) ?_
  exact hk47 (x2 + (1 : Int32)) q57 H locs ls hI (lv_sub hl [1, 0] rfl) hm
def fX12_text_47 (N : Nat) (k75 : Mem → Option (Int32 × Mem)) : Nat → Int32 → Mem → Option (Int32 × Mem)
  | 0, _, _ => none
  | n + 1, x2, m => if (8 : Int32) ≤ x2 then (k75 m) else (if x2 = (5 : Int32) then (fX12_text_66 N (fun x2 m => fX12_text_47 N k75 n x2 m) x2 (100 : Int32) x2 m) else (fX12_text_66 N (fun x2 m => fX12_text_47 N k75 n x2 m) x2 (0 : Int32) x2 m))
set_option maxHeartbeats 4000000 in
set_option maxRecDepth 100000 in
theorem tX12_text_47 (N : Nat) {l : Launch} {D : va_G} {ca : Nat → ClassId} {ad : Nat → Nat} {p : Program} {e : Env} {s : State} {mm : MethodId} {args : Array Value} {below : List Frame} {meth : Method} {c : Code} {k75 : Mem → Option (Int32 × Mem)} (hn : HNr ca) (X : CX p s mm args meth c cX12_text 3 RX12 D ca ad (WA ca ad s.heap.size)) (hr : meth.sig.returnType = (some .int)) (fin : (Int32 × Mem)) (hk75 : ∀  (m : Mem) (H : Heap) (locs : List Loc) (ls : Array Slot), IW D ca ad (WA ca ad s.heap.size) s m H locs → lv_has ls 3 [(0, .ref (ad 99))] → k75 m = some fin → W p l e rmX12_text s mm args below meth c H locs 0 0 (MQ below (QI D ca ad s.heap.size fin.1 fin.2) args s 0 0 (WA ca ad s.heap.size)) (F0 mm 75 ls [])) : ∀ (n : Nat) (x2 : Int32) (m : Mem) (H : Heap) (locs : List Loc) (ls : Array Slot), IW D ca ad (WA ca ad s.heap.size) s m H locs → lv_has ls 3 [(0, .ref (ad 99)), (2, .int x2)] → fX12_text_47 N k75 n x2 m = some fin → W p l e rmX12_text s mm args below meth c H locs 0 0 (MQ below (QI D ca ad s.heap.size fin.1 fin.2) args s 0 0 (WA ca ad s.heap.size)) (F0 mm 47 ls []) := by
  have hx := X.1
  have hb := X.2.1
  intro n
  induction n with
  | zero => intro x2 m H locs ls hI hl hm
            exact absurd hm (by intro q; cases q)
  | succ n ih =>
    intro x2 m H locs ls hI hl hm
    have hm : (if (8 : Int32) ≤ x2 then (k75 m) else (if x2 = (5 : Int32) then (fX12_text_66 N (fun x2 m => fX12_text_47 N k75 n x2 m) x2 (100 : Int32) x2 m) else (fX12_text_66 N (fun x2 m => fX12_text_47 N k75 n x2 m) x2 (0 : Int32) x2 m))) = some fin := hm
    refine lv_iload_n hx hb dX12_text_47 rfl (lv_at hl 1 rfl) ?_
    refine lv_bipush (v := (8 : Int32)) hx hb dX12_text_48 (by decide) ?_
    refine lv_icmp_ge (tgt := 75) hx hb dX12_text_50 (by decide) (fun c55 => ?_) (fun c55 => ?_)
    · have hm := g_t c55 hm
      exact hk75 m H locs ls hI (lv_sub hl [0] rfl) hm
    · have hm := g_f c55 hm
      refine lv_aload_n hx hb dX12_text_53 rfl (lv_at hl 0 rfl) ?_
      refine lv_iload_n hx hb dX12_text_54 rfl (lv_at hl 1 rfl) ?_
      refine lv_iload_n hx hb dX12_text_55 rfl (lv_at hl 1 rfl) ?_
      refine lv_iconst (v := (5 : Int32)) hx hb dX12_text_56 (by decide) ?_
      refine lv_icmp_ne (tgt := 65) hx hb dX12_text_57 (by decide) (fun c56 => ?_) (fun c56 => ?_)
      · have hm := g_f c56 hm
        refine lv_iconst (v := (0 : Int32)) hx hb dX12_text_65 (by decide) ?_
        exact tX12_text_66 N hn X hr fin ih x2 (0 : Int32) x2 m H locs ls hI (lv_sub hl [0, 1] rfl) hm
      · have hm := g_t c56 hm
        refine lv_bipush (v := (100 : Int32)) hx hb dX12_text_60 (by decide) ?_
        refine lv_goto (tgt := 66) hx hb dX12_text_62 (by decide) ?_
        exact tX12_text_66 N hn X hr fin ih x2 (100 : Int32) x2 m H locs ls hI (lv_sub hl [0, 1] rfl) hm
def fX12_text (N : Nat) (x1 : Int32) (m : Mem) : Option (Int32 × Mem) := if x1 < 0 then (some ((-2 : Int32), (mI m 99 0 (0 : Int32)))) else (if x1 ≤ ((mI m 99 0 (0 : Int32)).1 99 2) then (fX12_text_47 N (fX12_text_75 N) N (0 : Int32) (mI (mI (mI (mI (mI (mI m 99 0 (0 : Int32)) 99 25 x1) 99 2 (0 : Int32)) 99 26 (0 : Int32)) 99 30 (0 : Int32)) 99 31 (-1 : Int32))) else (some ((-2 : Int32), (mI m 99 0 (0 : Int32)))))
set_option maxHeartbeats 4000000 in
set_option maxRecDepth 100000 in
theorem ctX12_text {l : Launch} {D : va_G} {ca : Nat → ClassId} {ad : Nat → Nat} (N : Nat) (x1 : Int32)  (hn : HNr ca) (m : Mem) (fin : (Int32 × Mem)) (hm : fX12_text N x1 m = some fin) : CI l D ca ad yX12_text cwX12_text rmX12_text [.ref (ad 99), .int x1] m fin.1 fin.2 := by
  refine start (by decide) (Nat.le_of_ble_eq_true rfl) ?_
  intro p e s mm args below meth c H locs ls X hI hr hl
  have X : CX p s mm args meth c cX12_text 3 RX12 D ca ad (WA ca ad s.heap.size) := X
  have hx := X.1
  have hb := X.2.1
  have hl : lv_has ls 3 [(0, .ref (ad 99)), (1, .int x1)] := hl
  have hm : (if x1 < 0 then (some ((-2 : Int32), (mI m 99 0 (0 : Int32)))) else (if x1 ≤ ((mI m 99 0 (0 : Int32)).1 99 2) then (fX12_text_47 N (fX12_text_75 N) N (0 : Int32) (mI (mI (mI (mI (mI (mI m 99 0 (0 : Int32)) 99 25 x1) 99 2 (0 : Int32)) 99 26 (0 : Int32)) 99 30 (0 : Int32)) 99 31 (-1 : Int32))) else (some ((-2 : Int32), (mI m 99 0 (0 : Int32)))))) = some fin := hm
  refine lv_aload_n hx hb dX12_text_0 rfl (lv_at hl 0 rfl) ?_
  refine lv_iconst (v := (0 : Int32)) hx hb dX12_text_1 (by decide) ?_
  refine pI X hI fpX12_154 (la_99 hn) dX12_text_2 (fun H locs hI => ?_)
  refine lv_iload_n hx hb dX12_text_5 rfl (lv_at hl 1 rfl) ?_
  refine lv_if_lt (tgt := 17) hx hb dX12_text_6 (by decide) (fun c1 => ?_) (fun c1 => ?_)
  · have hm := g_t c1 hm
    refine lv_bipush (v := (-2 : Int32)) hx hb dX12_text_17 (by decide) ?_
    exact rI X hI hr (g_p hm).1 (g_p hm).2 dX12_text_19
  · have hm := g_f c1 hm
    refine lv_iload_n hx hb dX12_text_9 rfl (lv_at hl 1 rfl) ?_
    refine lv_aload_n hx hb dX12_text_10 rfl (lv_at hl 0 rfl) ?_
    refine gI X hI fdX12_157 (la_99 hn) dX12_text_11 ?_
    refine lv_icmp_le (tgt := 20) hx hb dX12_text_14 (by decide) (fun c2 => ?_) (fun c2 => ?_)
    · have hm := g_t c2 hm
      refine lv_aload_n hx hb dX12_text_20 rfl (lv_at hl 0 rfl) ?_
      refine lv_iload_n hx hb dX12_text_21 rfl (lv_at hl 1 rfl) ?_
      refine pI X hI fpX12_163 (la_99 hn) dX12_text_22 (fun H locs hI => ?_)
      refine lv_aload_n hx hb dX12_text_25 rfl (lv_at hl 0 rfl) ?_
      refine lv_iconst (v := (0 : Int32)) hx hb dX12_text_26 (by decide) ?_
      refine pI X hI fpX12_157 (la_99 hn) dX12_text_27 (fun H locs hI => ?_)
      refine lv_aload_n hx hb dX12_text_30 rfl (lv_at hl 0 rfl) ?_
      refine lv_iconst (v := (0 : Int32)) hx hb dX12_text_31 (by decide) ?_
      refine pI X hI fpX12_160 (la_99 hn) dX12_text_32 (fun H locs hI => ?_)
      refine lv_aload_n hx hb dX12_text_35 rfl (lv_at hl 0 rfl) ?_
      refine lv_iconst (v := (0 : Int32)) hx hb dX12_text_36 (by decide) ?_
      refine pI X hI fpX12_208 (la_99 hn) dX12_text_37 (fun H locs hI => ?_)
      refine lv_aload_n hx hb dX12_text_40 rfl (lv_at hl 0 rfl) ?_
      refine lv_iconst (v := (-1 : Int32)) hx hb dX12_text_41 (by decide) ?_
      refine pI X hI fpX12_211 (la_99 hn) dX12_text_42 (fun H locs hI => ?_)
      refine lv_iconst (v := (0 : Int32)) hx hb dX12_text_45 (by decide) ?_
      refine lv_istore_n (lv' := [(2, .int (0 : Int32)), (0, .ref (ad 99)), (1, .int x1)]) hx hb dX12_text_46 rfl hl (by decide) rfl (fun ls hl => ?_)
      exact tX12_text_47 N hn X hr fin (tX12_text_75 N hn X hr fin ) N (0 : Int32) (mI (mI (mI (mI (mI (mI m 99 0 (0 : Int32)) 99 25 x1) 99 2 (0 : Int32)) 99 26 (0 : Int32)) 99 30 (0 : Int32)) 99 31 (-1 : Int32)) H locs ls hI (lv_sub hl [1, 0] rfl) hm
    · have hm := g_f c2 hm
      refine lv_bipush (v := (-2 : Int32)) hx hb dX12_text_17 (by decide) ?_
      exact rI X hI hr (g_p hm).1 (g_p hm).2 dX12_text_19
