abbrev rmX6_hasTub : Room := { frames := 0, cells := 0, slots := 0, locals := 0 }
def fX6_hasTub  (x0 : Nat) (x1 : Int32) (m : Mem) : Option Int32 := if x1 < 0 then (some (0 : Int32)) else (if (m.1 (x0 + 3) 2) ≤ x1 then (some (0 : Int32)) else (if (6 : Int32) ≤ x1 then (some (0 : Int32)) else (some (1 : Int32))))
set_option maxHeartbeats 4000000 in
set_option maxRecDepth 100000 in
theorem ctX6_hasTub {l : Launch} {D : va_G} {ca : Nat → ClassId} {ad : Nat → Nat}  (x0 : Nat) (x1 : Int32) (hx0 : ly ca x0 = (0, 6)) (hn : HNc ca) (m : Mem) (fin : Int32) (hm : fX6_hasTub x0 x1 m = some fin) : CI l D ca ad yX6_hasTub cwX6_hasTub rmX6_hasTub [.ref (ad x0), .int x1] m fin m := by
  refine start (by decide) (Nat.le_of_ble_eq_true rfl) ?_
  intro p e s mm args below meth c H locs ls X hI hr hl
  have X : CX p s mm args meth c cX6_hasTub 2 RX6 D ca ad (WA ca ad s.heap.size) := X
  have hx := X.1
  have hb := X.2.1
  have hl : lv_has ls 2 [(0, .ref (ad x0)), (1, .int x1)] := hl
  have hm : (if x1 < 0 then (some (0 : Int32)) else (if (m.1 (x0 + 3) 2) ≤ x1 then (some (0 : Int32)) else (if (6 : Int32) ≤ x1 then (some (0 : Int32)) else (some (1 : Int32))))) = some fin := hm
  have hpm : m = m := rfl
  refine lv_iload_n hx hb dX6_hasTub_0 rfl (lv_at hl 1 rfl) ?_
  refine lv_if_lt (tgt := 25) hx hb dX6_hasTub_1 (by decide) (fun c1 => ?_) (fun c1 => ?_)
  · have hm := g_t c1 hm
    refine lv_iconst (v := (0 : Int32)) hx hb dX6_hasTub_25 (by decide) ?_
    exact rZ X hI hr (by decide) (g_1 hm) hpm dX6_hasTub_26
  · have hm := g_f c1 hm
    refine lv_iload_n hx hb dX6_hasTub_4 rfl (lv_at hl 1 rfl) ?_
    refine lv_aload_n hx hb dX6_hasTub_5 rfl (lv_at hl 0 rfl) ?_
    refine gR X hI fdX6_20 hx0 rf6_1 dX6_hasTub_6 ?_
    refine gI X hI fdX6_43 (lf6_1 hn hx0) dX6_hasTub_9 ?_
    refine lv_icmp_ge (tgt := 25) hx hb dX6_hasTub_12 (by decide) (fun c2 => ?_) (fun c2 => ?_)
    · have hm := g_t c2 hm
      refine lv_iconst (v := (0 : Int32)) hx hb dX6_hasTub_25 (by decide) ?_
      exact rZ X hI hr (by decide) (g_1 hm) hpm dX6_hasTub_26
    · have hm := g_f c2 hm
      refine lv_iload_n hx hb dX6_hasTub_15 rfl (lv_at hl 1 rfl) ?_
      refine lv_bipush (v := (6 : Int32)) hx hb dX6_hasTub_16 (by decide) ?_
      refine lv_icmp_ge (tgt := 25) hx hb dX6_hasTub_18 (by decide) (fun c3 => ?_) (fun c3 => ?_)
      · have hm := g_t c3 hm
        refine lv_iconst (v := (0 : Int32)) hx hb dX6_hasTub_25 (by decide) ?_
        exact rZ X hI hr (by decide) (g_1 hm) hpm dX6_hasTub_26
      · have hm := g_f c3 hm
        refine lv_iconst (v := (1 : Int32)) hx hb dX6_hasTub_21 (by decide) ?_
        refine lv_goto (tgt := 26) hx hb dX6_hasTub_22 (by decide) ?_
        exact rZ X hI hr (by decide) (g_1 hm) hpm dX6_hasTub_26
abbrev rmX9_cell : Room := { frames := 0, cells := 0, slots := 0, locals := 0 }
def fX9_cell  (x0 : Nat) (x1 : Int32) (x2 : Int32) (m : Mem) : Option Int32 := if (((3 : Int32) * x1) + x2) < 0 then (some (0 : Int32)) else (if (Int32.ofNat (lay (x0 + 1)).2) ≤ (((3 : Int32) * x1) + x2) then (some (0 : Int32)) else (if (((3 : Int32) * x1) + x2) < 0 ∨ (lay (x0 + 1)).2 ≤ (((3 : Int32) * x1) + x2).toNatClampNeg then none else (some (m.1 (x0 + 1) (((3 : Int32) * x1) + x2).toNatClampNeg))))
set_option maxHeartbeats 4000000 in
set_option maxRecDepth 100000 in
theorem ctX9_cell {l : Launch} {D : va_G} {ca : Nat → ClassId} {ad : Nat → Nat}  (x0 : Nat) (x1 : Int32) (x2 : Int32) (hx0 : ly ca x0 = (0, 9)) (hn : HNc ca) (m : Mem) (fin : Int32) (hm : fX9_cell x0 x1 x2 m = some fin) : CI l D ca ad yX9_cell cwX9_cell rmX9_cell [.ref (ad x0), .int x1, .int x2] m fin m := by
  refine start (by decide) (Nat.le_of_ble_eq_true rfl) ?_
  intro p e s mm args below meth c H locs ls X hI hr hl
  have X : CX p s mm args meth c cX9_cell 4 RX9 D ca ad (WA ca ad s.heap.size) := X
  have hx := X.1
  have hb := X.2.1
  have hl : lv_has ls 4 [(0, .ref (ad x0)), (1, .int x1), (2, .int x2)] := hl
  have hm : (if (((3 : Int32) * x1) + x2) < 0 then (some (0 : Int32)) else (if (Int32.ofNat (lay (x0 + 1)).2) ≤ (((3 : Int32) * x1) + x2) then (some (0 : Int32)) else (if (((3 : Int32) * x1) + x2) < 0 ∨ (lay (x0 + 1)).2 ≤ (((3 : Int32) * x1) + x2).toNatClampNeg then none else (some (m.1 (x0 + 1) (((3 : Int32) * x1) + x2).toNatClampNeg))))) = some fin := hm
  have hpm : m = m := rfl
  refine lv_iconst (v := (3 : Int32)) hx hb dX9_cell_0 (by decide) ?_
  refine lv_iload_n hx hb dX9_cell_1 rfl (lv_at hl 1 rfl) ?_
  refine lv_imul hx hb dX9_cell_2 ?_
  refine lv_iload_n hx hb dX9_cell_3 rfl (lv_at hl 2 rfl) ?_
  refine lv_iadd hx hb dX9_cell_4 ?_
  refine lv_istore_n (lv' := [(3, .int (((3 : Int32) * x1) + x2)), (0, .ref (ad x0)), (1, .int x1), (2, .int x2)]) hx hb dX9_cell_5 rfl hl (by decide) rfl (fun ls hl => ?_)
  refine lv_iload_n hx hb dX9_cell_6 rfl (lv_at hl 0 rfl) ?_
  refine lv_if_lt (tgt := 28) hx hb dX9_cell_7 (by decide) (fun c1 => ?_) (fun c1 => ?_)
  · have hm := g_t c1 hm
    refine lv_iconst (v := (0 : Int32)) hx hb dX9_cell_28 (by decide) ?_
    exact rI X hI hr (g_1 hm) hpm dX9_cell_29
  · have hm := g_f c1 hm
    refine lv_iload_n hx hb dX9_cell_10 rfl (lv_at hl 0 rfl) ?_
    refine lv_aload_n hx hb dX9_cell_11 rfl (lv_at hl 1 rfl) ?_
    refine gR X hI fdX9_15 hx0 rf9_1 dX9_cell_12 ?_
    refine nA X hI (lf9_1 hn hx0) dX9_cell_15 ?_
    refine lv_icmp_ge (tgt := 28) hx hb dX9_cell_16 (by decide) (fun c2 => ?_) (fun c2 => ?_)
    · have hm := g_t c2 hm
      refine lv_iconst (v := (0 : Int32)) hx hb dX9_cell_28 (by decide) ?_
      exact rI X hI hr (g_1 hm) hpm dX9_cell_29
    · have hm := g_f c2 hm
      refine lv_aload_n hx hb dX9_cell_19 rfl (lv_at hl 1 rfl) ?_
      refine gR X hI fdX9_15 hx0 rf9_1 dX9_cell_20 ?_
      refine lv_iload_n hx hb dX9_cell_23 rfl (lv_at hl 0 rfl) ?_
      obtain ⟨g3, hm⟩ := g_no hm
      refine aI X hI (lf9_1 hn hx0) g3 dX9_cell_24 ?_
      refine lv_goto (tgt := 29) hx hb dX9_cell_25 (by decide) ?_
      exact rI X hI hr (g_1 hm) hpm dX9_cell_29
abbrev rmX6_hasKnight : Room := { frames := 0, cells := 0, slots := 0, locals := 0 }
def fX6_hasKnight  (x0 : Nat) (x1 : Int32) (m : Mem) : Option Int32 := if x1 < 0 then (some (0 : Int32)) else (if (m.1 (x0 + 1) 2) ≤ x1 then (some (0 : Int32)) else (if (6 : Int32) ≤ x1 then (some (0 : Int32)) else (some (1 : Int32))))
set_option maxHeartbeats 4000000 in
set_option maxRecDepth 100000 in
theorem ctX6_hasKnight {l : Launch} {D : va_G} {ca : Nat → ClassId} {ad : Nat → Nat}  (x0 : Nat) (x1 : Int32) (hx0 : ly ca x0 = (0, 6)) (hn : HNc ca) (m : Mem) (fin : Int32) (hm : fX6_hasKnight x0 x1 m = some fin) : CI l D ca ad yX6_hasKnight cwX6_hasKnight rmX6_hasKnight [.ref (ad x0), .int x1] m fin m := by
  refine start (by decide) (Nat.le_of_ble_eq_true rfl) ?_
  intro p e s mm args below meth c H locs ls X hI hr hl
  have X : CX p s mm args meth c cX6_hasKnight 2 RX6 D ca ad (WA ca ad s.heap.size) := X
  have hx := X.1
  have hb := X.2.1
  have hl : lv_has ls 2 [(0, .ref (ad x0)), (1, .int x1)] := hl
  have hm : (if x1 < 0 then (some (0 : Int32)) else (if (m.1 (x0 + 1) 2) ≤ x1 then (some (0 : Int32)) else (if (6 : Int32) ≤ x1 then (some (0 : Int32)) else (some (1 : Int32))))) = some fin := hm
  have hpm : m = m := rfl
  refine lv_iload_n hx hb dX6_hasKnight_0 rfl (lv_at hl 1 rfl) ?_
  refine lv_if_lt (tgt := 25) hx hb dX6_hasKnight_1 (by decide) (fun c1 => ?_) (fun c1 => ?_)
  · have hm := g_t c1 hm
    refine lv_iconst (v := (0 : Int32)) hx hb dX6_hasKnight_25 (by decide) ?_
    exact rZ X hI hr (by decide) (g_1 hm) hpm dX6_hasKnight_26
  · have hm := g_f c1 hm
    refine lv_iload_n hx hb dX6_hasKnight_4 rfl (lv_at hl 1 rfl) ?_
    refine lv_aload_n hx hb dX6_hasKnight_5 rfl (lv_at hl 0 rfl) ?_
    refine gR X hI fdX6_14 hx0 rf6_0 dX6_hasKnight_6 ?_
    refine gI X hI fdX6_43 (lf6_0 hn hx0) dX6_hasKnight_9 ?_
    refine lv_icmp_ge (tgt := 25) hx hb dX6_hasKnight_12 (by decide) (fun c2 => ?_) (fun c2 => ?_)
    · have hm := g_t c2 hm
      refine lv_iconst (v := (0 : Int32)) hx hb dX6_hasKnight_25 (by decide) ?_
      exact rZ X hI hr (by decide) (g_1 hm) hpm dX6_hasKnight_26
    · have hm := g_f c2 hm
      refine lv_iload_n hx hb dX6_hasKnight_15 rfl (lv_at hl 1 rfl) ?_
      refine lv_bipush (v := (6 : Int32)) hx hb dX6_hasKnight_16 (by decide) ?_
      refine lv_icmp_ge (tgt := 25) hx hb dX6_hasKnight_18 (by decide) (fun c3 => ?_) (fun c3 => ?_)
      · have hm := g_t c3 hm
        refine lv_iconst (v := (0 : Int32)) hx hb dX6_hasKnight_25 (by decide) ?_
        exact rZ X hI hr (by decide) (g_1 hm) hpm dX6_hasKnight_26
      · have hm := g_f c3 hm
        refine lv_iconst (v := (1 : Int32)) hx hb dX6_hasKnight_21 (by decide) ?_
        refine lv_goto (tgt := 26) hx hb dX6_hasKnight_22 (by decide) ?_
        exact rZ X hI hr (by decide) (g_1 hm) hpm dX6_hasKnight_26
abbrev rmX0_begin : Room := { frames := 1, cells := 0, slots := 0, locals := 23 }
def fX0_begin_111 (N : Nat) (k79 : Nat → Nat → Int32 → Mem → Option Mem) (x0 : Nat) (x1 : Nat) (x2 : Int32) (y0 : Int32) (y1 : Int32) (y2 : Nat) (m : Mem) : Option Mem := if y1 < 0 ∨ 6 ≤ y1.toNatClampNeg then none else (if x2 < 0 ∨ 6 ≤ x2.toNatClampNeg then none else (if x2 < 0 ∨ 6 ≤ x2.toNatClampNeg then none else (if x2 < 0 ∨ 6 ≤ x2.toNatClampNeg then none else (if x2 < 0 ∨ 6 ≤ x2.toNatClampNeg then none else (if x2 < 0 ∨ 6 ≤ x2.toNatClampNeg then none else (k79 x0 x1 (x2 + (1 : Int32)) (mI (mI (mI (mI (mI (mI m y2 y1.toNatClampNeg y0) (x0 + 5) x2.toNatClampNeg (-2 : Int32)) (x0 + 6) x2.toNatClampNeg (0 : Int32)) (x0 + 7) x2.toNatClampNeg (0 : Int32)) (x0 + 8) x2.toNatClampNeg (0 : Int32)) (x0 + 9) x2.toNatClampNeg (0 : Int32))))))))
set_option maxHeartbeats 4000000 in
set_option maxRecDepth 100000 in
theorem tX0_begin_111 (N : Nat) {l : Launch} {D : va_G} {ca : Nat → ClassId} {ad : Nat → Nat} {p : Program} {e : Env} {s : State} {mm : MethodId} {args : Array Value} {below : List Frame} {meth : Method} {c : Code} {k79 : Nat → Nat → Int32 → Mem → Option Mem} (hn : HNc ca) (X : CX p s mm args meth c cX0_begin 4 RX0 D ca ad (WA ca ad s.heap.size)) (hr : meth.sig.returnType = none) (fin : Mem) (hk79 : ∀ (x0 : Nat) (x1 : Nat) (x2 : Int32) (m : Mem) (H : Heap) (locs : List Loc) (ls : Array Slot), ly ca x0 = (0, 0) → ly ca x1 = (0, 6) → IW D ca ad (WA ca ad s.heap.size) s m H locs → lv_has ls 4 [(0, .ref (ad x0)), (1, .ref (ad x1)), (2, .int x2)] → k79 x0 x1 x2 m = some fin → W p l e rmX0_begin s mm args below meth c H locs 0 0 (MQ below (QV D ca ad s.heap.size fin) args s 0 0 (WA ca ad s.heap.size)) (F0 mm 79 ls [])) : ∀ (x0 : Nat) (x1 : Nat) (x2 : Int32) (y0 : Int32) (y1 : Int32) (y2 : Nat) (m : Mem) (H : Heap) (locs : List Loc) (ls : Array Slot), ly ca x0 = (0, 0) → ly ca x1 = (0, 6) → ly ca y2 = (1, 6) → IW D ca ad (WA ca ad s.heap.size) s m H locs → lv_has ls 4 [(0, .ref (ad x0)), (1, .ref (ad x1)), (2, .int x2)] → fX0_begin_111 N k79 x0 x1 x2 y0 y1 y2 m = some fin → W p l e rmX0_begin s mm args below meth c H locs 0 0 (MQ below (QV D ca ad s.heap.size fin) args s 0 0 (WA ca ad s.heap.size)) (F0 mm 111 ls [.int y0, .int y1, .ref (ad y2)]) := by
  have hx := X.1
  have hb := X.2.1
  intro x0 x1 x2 y0 y1 y2 m H locs ls hx0 hx1 hy2 hI hl hm
  have hm : (if y1 < 0 ∨ 6 ≤ y1.toNatClampNeg then none else (if x2 < 0 ∨ 6 ≤ x2.toNatClampNeg then none else (if x2 < 0 ∨ 6 ≤ x2.toNatClampNeg then none else (if x2 < 0 ∨ 6 ≤ x2.toNatClampNeg then none else (if x2 < 0 ∨ 6 ≤ x2.toNatClampNeg then none else (if x2 < 0 ∨ 6 ≤ x2.toNatClampNeg then none else (k79 x0 x1 (x2 + (1 : Int32)) (mI (mI (mI (mI (mI (mI m y2 y1.toNatClampNeg y0) (x0 + 5) x2.toNatClampNeg (-2 : Int32)) (x0 + 6) x2.toNatClampNeg (0 : Int32)) (x0 + 7) x2.toNatClampNeg (0 : Int32)) (x0 + 8) x2.toNatClampNeg (0 : Int32)) (x0 + 9) x2.toNatClampNeg (0 : Int32))))))))) = some fin := hm
  obtain ⟨g5, hm⟩ := g_no hm
  refine sI X hI hy2 g5 dX0_begin_111 (fun H locs hI => ?_)
  refine lv_aload_n hx hb dX0_begin_112 rfl (lv_at hl 0 rfl) ?_
  refine gR X hI fdX0_24 hx0 rf0_4 dX0_begin_113 ?_
  refine lv_iload_n hx hb dX0_begin_116 rfl (lv_at hl 2 rfl) ?_
  refine lv_bipush (v := (-2 : Int32)) hx hb dX0_begin_117 (by decide) ?_
  obtain ⟨g6, hm⟩ := g_no hm
  refine sI X hI (lf0_4 hn hx0) g6 dX0_begin_119 (fun H locs hI => ?_)
  refine lv_aload_n hx hb dX0_begin_120 rfl (lv_at hl 0 rfl) ?_
  refine gR X hI fdX0_27 hx0 rf0_5 dX0_begin_121 ?_
  refine lv_iload_n hx hb dX0_begin_124 rfl (lv_at hl 2 rfl) ?_
  refine lv_iconst (v := (0 : Int32)) hx hb dX0_begin_125 (by decide) ?_
  obtain ⟨g7, hm⟩ := g_no hm
  refine sI X hI (lf0_5 hn hx0) g7 dX0_begin_126 (fun H locs hI => ?_)
  refine lv_aload_n hx hb dX0_begin_127 rfl (lv_at hl 0 rfl) ?_
  refine gR X hI fdX0_30 hx0 rf0_6 dX0_begin_128 ?_
  refine lv_iload_n hx hb dX0_begin_131 rfl (lv_at hl 2 rfl) ?_
  refine lv_iconst (v := (0 : Int32)) hx hb dX0_begin_132 (by decide) ?_
  obtain ⟨g8, hm⟩ := g_no hm
  refine sI X hI (lf0_6 hn hx0) g8 dX0_begin_133 (fun H locs hI => ?_)
  refine lv_aload_n hx hb dX0_begin_134 rfl (lv_at hl 0 rfl) ?_
  refine gR X hI fdX0_33 hx0 rf0_7 dX0_begin_135 ?_
  refine lv_iload_n hx hb dX0_begin_138 rfl (lv_at hl 2 rfl) ?_
  refine lv_iconst (v := (0 : Int32)) hx hb dX0_begin_139 (by decide) ?_
  obtain ⟨g9, hm⟩ := g_no hm
  refine sI X hI (lf0_7 hn hx0) g9 dX0_begin_140 (fun H locs hI => ?_)
  refine lv_aload_n hx hb dX0_begin_141 rfl (lv_at hl 0 rfl) ?_
  refine gR X hI fdX0_36 hx0 rf0_8 dX0_begin_142 ?_
  refine lv_iload_n hx hb dX0_begin_145 rfl (lv_at hl 2 rfl) ?_
  refine lv_iconst (v := (0 : Int32)) hx hb dX0_begin_146 (by decide) ?_
  obtain ⟨g10, hm⟩ := g_no hm
  refine sI X hI (lf0_8 hn hx0) g10 dX0_begin_147 (fun H locs hI => ?_)
  refine lv_iinc (v := (x2 + (1 : Int32))) (lv' := [(2, .int (x2 + (1 : Int32))), (0, .ref (ad x0)), (1, .ref (ad x1))]) hx hb dX0_begin_148 hl (k := 2) rfl rfl (by decide) rfl (fun ls hl => ?_)
  refine lv_goto (tgt := 79) hx hb dX0_begin_151 (by decide) ?_
  exact hk79 x0 x1 (x2 + (1 : Int32)) (mI (mI (mI (mI (mI (mI m y2 y1.toNatClampNeg y0) (x0 + 5) x2.toNatClampNeg (-2 : Int32)) (x0 + 6) x2.toNatClampNeg (0 : Int32)) (x0 + 7) x2.toNatClampNeg (0 : Int32)) (x0 + 8) x2.toNatClampNeg (0 : Int32)) (x0 + 9) x2.toNatClampNeg (0 : Int32)) H locs ls hx0 hx1 hI (lv_sub hl [1, 2, 0] rfl) hm
def fX0_begin_79 (N : Nat) : Nat → Nat → Nat → Int32 → Mem → Option Mem
  | 0, _, _, _, _ => none
  | n + 1, x0, x1, x2, m => if (6 : Int32) ≤ x2 then (some (mJ (mI (mI m x0 9 (0 : Int32)) x0 10 (0 : Int32)) x0 11 ((mI (mI m x0 9 (0 : Int32)) x0 10 (0 : Int32)).1 x1 8).toInt64)) else ((fX6_hasKnight x1 x2 m).bind (fun q2 => if q2 = 0 then (fX0_begin_111 N (fun x0 x1 x2 m => fX0_begin_79 N n x0 x1 x2 m) x0 x1 x2 (0 : Int32) x2 (x0 + 4) m) else ((fX9_cell (x1 + 1) x2 (1 : Int32) m).bind (fun q11 => fX0_begin_111 N (fun x0 x1 x2 m => fX0_begin_79 N n x0 x1 x2 m) x0 x1 x2 q11 x2 (x0 + 4) m))))
set_option maxHeartbeats 4000000 in
set_option maxRecDepth 100000 in
theorem tX0_begin_79 (N : Nat) {l : Launch} {D : va_G} {ca : Nat → ClassId} {ad : Nat → Nat} {p : Program} {e : Env} {s : State} {mm : MethodId} {args : Array Value} {below : List Frame} {meth : Method} {c : Code}  (hn : HNc ca) (X : CX p s mm args meth c cX0_begin 4 RX0 D ca ad (WA ca ad s.heap.size)) (hr : meth.sig.returnType = none) (fin : Mem)  : ∀ (n : Nat) (x0 : Nat) (x1 : Nat) (x2 : Int32) (m : Mem) (H : Heap) (locs : List Loc) (ls : Array Slot), ly ca x0 = (0, 0) → ly ca x1 = (0, 6) → IW D ca ad (WA ca ad s.heap.size) s m H locs → lv_has ls 4 [(0, .ref (ad x0)), (1, .ref (ad x1)), (2, .int x2)] → fX0_begin_79 N n x0 x1 x2 m = some fin → W p l e rmX0_begin s mm args below meth c H locs 0 0 (MQ below (QV D ca ad s.heap.size fin) args s 0 0 (WA ca ad s.heap.size)) (F0 mm 79 ls []) := by
  have hx := X.1
  have hb := X.2.1
  intro n
  induction n with
  | zero => intro x0 x1 x2 m H locs ls hx0 hx1 hI hl hm
            exact absurd hm (by intro q; cases q)
  | succ n ih =>
    intro x0 x1 x2 m H locs ls hx0 hx1 hI hl hm
    have hm : (if (6 : Int32) ≤ x2 then (some (mJ (mI (mI m x0 9 (0 : Int32)) x0 10 (0 : Int32)) x0 11 ((mI (mI m x0 9 (0 : Int32)) x0 10 (0 : Int32)).1 x1 8).toInt64)) else ((fX6_hasKnight x1 x2 m).bind (fun q2 => if q2 = 0 then (fX0_begin_111 N (fun x0 x1 x2 m => fX0_begin_79 N n x0 x1 x2 m) x0 x1 x2 (0 : Int32) x2 (x0 + 4) m) else ((fX9_cell (x1 + 1) x2 (1 : Int32) m).bind (fun q11 => fX0_begin_111 N (fun x0 x1 x2 m => fX0_begin_79 N n x0 x1 x2 m) x0 x1 x2 q11 x2 (x0 + 4) m))))) = some fin := hm
    refine lv_iload_n hx hb dX0_begin_79 rfl (lv_at hl 2 rfl) ?_
    refine lv_bipush (v := (6 : Int32)) hx hb dX0_begin_80 (by decide) ?_
    refine lv_icmp_ge (tgt := 154) hx hb dX0_begin_82 (by decide) (fun c1 => ?_) (fun c1 => ?_)
    · have hm := g_t c1 hm
      refine lv_aload_n hx hb dX0_begin_154 rfl (lv_at hl 0 rfl) ?_
      refine lv_iconst (v := (0 : Int32)) hx hb dX0_begin_155 (by decide) ?_
      refine pI X hI fpX0_61 hx0 dX0_begin_156 (fun H locs hI => ?_)
      refine lv_aload_n hx hb dX0_begin_159 rfl (lv_at hl 0 rfl) ?_
      refine lv_iconst (v := (0 : Int32)) hx hb dX0_begin_160 (by decide) ?_
      refine pI X hI fpX0_65 hx0 dX0_begin_161 (fun H locs hI => ?_)
      refine lv_aload_n hx hb dX0_begin_164 rfl (lv_at hl 0 rfl) ?_
      refine lv_aload_n hx hb dX0_begin_165 rfl (lv_at hl 1 rfl) ?_
      refine gI X hI fdX0_68 hx1 dX0_begin_166 ?_
      refine lv_i2l hx hb dX0_begin_169 rfl ?_
      refine pL X hI fpX0_71 hx0 dX0_begin_170 (fun H locs hI => ?_)
      exact rV X hI hr (g_1 hm) dX0_begin_173
    · have hm := g_f c1 hm
      refine lv_aload_n hx hb dX0_begin_85 rfl (lv_at hl 0 rfl) ?_
      refine gR X hI fdX0_21 hx0 rf0_3 dX0_begin_86 ?_
      refine lv_iload_n hx hb dX0_begin_89 rfl (lv_at hl 2 rfl) ?_
      refine lv_aload_n hx hb dX0_begin_90 rfl (lv_at hl 1 rfl) ?_
      refine lv_iload_n hx hb dX0_begin_91 rfl (lv_at hl 2 rfl) ?_
      obtain ⟨q2, h3, hm⟩ := g_b hm
      refine backI X hI (runV X hI (ctX6_hasKnight x1 x2 hx1 hn _ _ h3 _) mdX0_55 hx1 rfl ⟨rfl, rfl⟩ ⟨Nat.le_of_ble_eq_true rfl, Nat.le_of_ble_eq_true rfl⟩ rfl hl.1 rfl (Nat.le_of_ble_eq_true rfl) dX0_begin_92) (fun H locs hI => ?_)
      refine lv_if_eq (tgt := 110) hx hb dX0_begin_95 (by decide) (fun c4 => ?_) (fun c4 => ?_)
      · have hm := g_t c4 hm
        refine lv_iconst (v := (0 : Int32)) hx hb dX0_begin_110 (by decide) ?_
        exact tX0_begin_111 N hn X hr fin ih x0 x1 x2 (0 : Int32) x2 (x0 + 4) m H locs ls hx0 hx1 (lf0_3 hn hx0) hI (lv_sub hl [0, 1, 2] rfl) hm
      · have hm := g_f c4 hm
        refine lv_aload_n hx hb dX0_begin_98 rfl (lv_at hl 1 rfl) ?_
        refine gR X hI fdX0_58 hx1 rf6_0 dX0_begin_99 ?_
        refine lv_iload_n hx hb dX0_begin_102 rfl (lv_at hl 2 rfl) ?_
        refine lv_iconst (v := (1 : Int32)) hx hb dX0_begin_103 (by decide) ?_
        obtain ⟨q11, h12, hm⟩ := g_b hm
        refine backI X hI (runV X hI (ctX9_cell (x1 + 1) x2 (1 : Int32) (lf6_0 hn hx1) hn _ _ h12 _) mdX0_49 (lf6_0 hn hx1) rfl ⟨rfl, rfl⟩ ⟨Nat.le_of_ble_eq_true rfl, Nat.le_of_ble_eq_true rfl⟩ rfl hl.1 rfl (Nat.le_of_ble_eq_true rfl) dX0_begin_104) (fun H locs hI => ?_)
        refine lv_goto (tgt := 111) hx hb dX0_begin_107 (by decide) ?_
        exact tX0_begin_111 N hn X hr fin ih x0 x1 x2 q11 x2 (x0 + 4) m H locs ls hx0 hx1 (lf0_3 hn hx0) hI (lv_sub hl [0, 1, 2] rfl) hm
def fX0_begin_77 (N : Nat) (x0 : Nat) (x1 : Nat) (m : Mem) : Option Mem := fX0_begin_79 N N x0 x1 (0 : Int32) m
set_option maxHeartbeats 4000000 in
set_option maxRecDepth 100000 in
theorem tX0_begin_77 (N : Nat) {l : Launch} {D : va_G} {ca : Nat → ClassId} {ad : Nat → Nat} {p : Program} {e : Env} {s : State} {mm : MethodId} {args : Array Value} {below : List Frame} {meth : Method} {c : Code}  (hn : HNc ca) (X : CX p s mm args meth c cX0_begin 4 RX0 D ca ad (WA ca ad s.heap.size)) (hr : meth.sig.returnType = none) (fin : Mem)  : ∀ (x0 : Nat) (x1 : Nat) (m : Mem) (H : Heap) (locs : List Loc) (ls : Array Slot), ly ca x0 = (0, 0) → ly ca x1 = (0, 6) → IW D ca ad (WA ca ad s.heap.size) s m H locs → lv_has ls 4 [(0, .ref (ad x0)), (1, .ref (ad x1))] → fX0_begin_77 N x0 x1 m = some fin → W p l e rmX0_begin s mm args below meth c H locs 0 0 (MQ below (QV D ca ad s.heap.size fin) args s 0 0 (WA ca ad s.heap.size)) (F0 mm 77 ls []) := by
  have hx := X.1
  have hb := X.2.1
  intro x0 x1 m H locs ls hx0 hx1 hI hl hm
  have hm : (fX0_begin_79 N N x0 x1 (0 : Int32) m) = some fin := hm
  refine lv_iconst (v := (0 : Int32)) hx hb dX0_begin_77 (by decide) ?_
  refine lv_istore_n (lv' := [(2, .int (0 : Int32)), (0, .ref (ad x0)), (1, .ref (ad x1))]) hx hb dX0_begin_78 rfl hl (by decide) rfl (fun ls hl => ?_)
  exact tX0_begin_79 N hn X hr fin  N x0 x1 (0 : Int32) m H locs ls hx0 hx1 hI (lv_sub hl [1, 2, 0] rfl) hm
def fX0_begin_62 (N : Nat) (k2 : Nat → Nat → Int32 → Mem → Option Mem) (x0 : Nat) (x1 : Nat) (x2 : Int32) (y0 : Int32) (y1 : Int32) (y2 : Nat) (m : Mem) : Option Mem := if y1 < 0 ∨ 6 ≤ y1.toNatClampNeg then none else (if x2 < 0 ∨ 6 ≤ x2.toNatClampNeg then none else (k2 x0 x1 (x2 + (1 : Int32)) (mI (mI m y2 y1.toNatClampNeg y0) (x0 + 3) x2.toNatClampNeg (-2 : Int32))))
set_option maxHeartbeats 4000000 in
set_option maxRecDepth 100000 in
theorem tX0_begin_62 (N : Nat) {l : Launch} {D : va_G} {ca : Nat → ClassId} {ad : Nat → Nat} {p : Program} {e : Env} {s : State} {mm : MethodId} {args : Array Value} {below : List Frame} {meth : Method} {c : Code} {k2 : Nat → Nat → Int32 → Mem → Option Mem} (hn : HNc ca) (X : CX p s mm args meth c cX0_begin 4 RX0 D ca ad (WA ca ad s.heap.size)) (hr : meth.sig.returnType = none) (fin : Mem) (hk2 : ∀ (x0 : Nat) (x1 : Nat) (x2 : Int32) (m : Mem) (H : Heap) (locs : List Loc) (ls : Array Slot), ly ca x0 = (0, 0) → ly ca x1 = (0, 6) → IW D ca ad (WA ca ad s.heap.size) s m H locs → lv_has ls 4 [(0, .ref (ad x0)), (1, .ref (ad x1)), (2, .int x2)] → k2 x0 x1 x2 m = some fin → W p l e rmX0_begin s mm args below meth c H locs 0 0 (MQ below (QV D ca ad s.heap.size fin) args s 0 0 (WA ca ad s.heap.size)) (F0 mm 2 ls [])) : ∀ (x0 : Nat) (x1 : Nat) (x2 : Int32) (y0 : Int32) (y1 : Int32) (y2 : Nat) (m : Mem) (H : Heap) (locs : List Loc) (ls : Array Slot), ly ca x0 = (0, 0) → ly ca x1 = (0, 6) → ly ca y2 = (1, 6) → IW D ca ad (WA ca ad s.heap.size) s m H locs → lv_has ls 4 [(0, .ref (ad x0)), (1, .ref (ad x1)), (2, .int x2)] → fX0_begin_62 N k2 x0 x1 x2 y0 y1 y2 m = some fin → W p l e rmX0_begin s mm args below meth c H locs 0 0 (MQ below (QV D ca ad s.heap.size fin) args s 0 0 (WA ca ad s.heap.size)) (F0 mm 62 ls [.int y0, .int y1, .ref (ad y2)]) := by
  have hx := X.1
  have hb := X.2.1
  intro x0 x1 x2 y0 y1 y2 m H locs ls hx0 hx1 hy2 hI hl hm
  have hm : (if y1 < 0 ∨ 6 ≤ y1.toNatClampNeg then none else (if x2 < 0 ∨ 6 ≤ x2.toNatClampNeg then none else (k2 x0 x1 (x2 + (1 : Int32)) (mI (mI m y2 y1.toNatClampNeg y0) (x0 + 3) x2.toNatClampNeg (-2 : Int32))))) = some fin := hm
  obtain ⟨g19, hm⟩ := g_no hm
  refine sI X hI hy2 g19 dX0_begin_62 (fun H locs hI => ?_)
  refine lv_aload_n hx hb dX0_begin_63 rfl (lv_at hl 0 rfl) ?_
  refine gR X hI fdX0_18 hx0 rf0_2 dX0_begin_64 ?_
  refine lv_iload_n hx hb dX0_begin_67 rfl (lv_at hl 2 rfl) ?_
  refine lv_bipush (v := (-2 : Int32)) hx hb dX0_begin_68 (by decide) ?_
  obtain ⟨g20, hm⟩ := g_no hm
  refine sI X hI (lf0_2 hn hx0) g20 dX0_begin_70 (fun H locs hI => ?_)
  refine lv_iinc (v := (x2 + (1 : Int32))) (lv' := [(2, .int (x2 + (1 : Int32))), (0, .ref (ad x0)), (1, .ref (ad x1))]) hx hb dX0_begin_71 hl (k := 2) rfl rfl (by decide) rfl (fun ls hl => ?_)
  refine lv_goto (tgt := 2) hx hb dX0_begin_74 (by decide) ?_
  exact hk2 x0 x1 (x2 + (1 : Int32)) (mI (mI m y2 y1.toNatClampNeg y0) (x0 + 3) x2.toNatClampNeg (-2 : Int32)) H locs ls hx0 hx1 hI (lv_sub hl [1, 2, 0] rfl) hm
def fX0_begin_36 (N : Nat) (k2 : Nat → Nat → Int32 → Mem → Option Mem) (x0 : Nat) (x1 : Nat) (x2 : Int32) (x3 : Int32) (y0 : Int32) (y1 : Int32) (y2 : Nat) (m : Mem) : Option Mem := if y1 < 0 ∨ 6 ≤ y1.toNatClampNeg then none else (if x3 = 0 then (fX0_begin_62 N k2 x0 x1 x2 (0 : Int32) x2 (x0 + 2) (mI m y2 y1.toNatClampNeg y0)) else ((fX9_cell (x1 + 3) x2 (2 : Int32) (mI m y2 y1.toNatClampNeg y0)).bind (fun q21 => fX0_begin_62 N k2 x0 x1 x2 ((10 : Int32) * q21) x2 (x0 + 2) (mI m y2 y1.toNatClampNeg y0))))
set_option maxHeartbeats 4000000 in
set_option maxRecDepth 100000 in
theorem tX0_begin_36 (N : Nat) {l : Launch} {D : va_G} {ca : Nat → ClassId} {ad : Nat → Nat} {p : Program} {e : Env} {s : State} {mm : MethodId} {args : Array Value} {below : List Frame} {meth : Method} {c : Code} {k2 : Nat → Nat → Int32 → Mem → Option Mem} (hn : HNc ca) (X : CX p s mm args meth c cX0_begin 4 RX0 D ca ad (WA ca ad s.heap.size)) (hr : meth.sig.returnType = none) (fin : Mem) (hk2 : ∀ (x0 : Nat) (x1 : Nat) (x2 : Int32) (m : Mem) (H : Heap) (locs : List Loc) (ls : Array Slot), ly ca x0 = (0, 0) → ly ca x1 = (0, 6) → IW D ca ad (WA ca ad s.heap.size) s m H locs → lv_has ls 4 [(0, .ref (ad x0)), (1, .ref (ad x1)), (2, .int x2)] → k2 x0 x1 x2 m = some fin → W p l e rmX0_begin s mm args below meth c H locs 0 0 (MQ below (QV D ca ad s.heap.size fin) args s 0 0 (WA ca ad s.heap.size)) (F0 mm 2 ls [])) : ∀ (x0 : Nat) (x1 : Nat) (x2 : Int32) (x3 : Int32) (y0 : Int32) (y1 : Int32) (y2 : Nat) (m : Mem) (H : Heap) (locs : List Loc) (ls : Array Slot), ly ca x0 = (0, 0) → ly ca x1 = (0, 6) → ly ca y2 = (1, 6) → IW D ca ad (WA ca ad s.heap.size) s m H locs → lv_has ls 4 [(0, .ref (ad x0)), (1, .ref (ad x1)), (2, .int x2), (3, .int x3)] → fX0_begin_36 N k2 x0 x1 x2 x3 y0 y1 y2 m = some fin → W p l e rmX0_begin s mm args below meth c H locs 0 0 (MQ below (QV D ca ad s.heap.size fin) args s 0 0 (WA ca ad s.heap.size)) (F0 mm 36 ls [.int y0, .int y1, .ref (ad y2)]) := by
  have hx := X.1
  have hb := X.2.1
  intro x0 x1 x2 x3 y0 y1 y2 m H locs ls hx0 hx1 hy2 hI hl hm
  have hm : (if y1 < 0 ∨ 6 ≤ y1.toNatClampNeg then none else (if x3 = 0 then (fX0_begin_62 N k2 x0 x1 x2 (0 : Int32) x2 (x0 + 2) (mI m y2 y1.toNatClampNeg y0)) else ((fX9_cell (x1 + 3) x2 (2 : Int32) (mI m y2 y1.toNatClampNeg y0)).bind (fun q21 => fX0_begin_62 N k2 x0 x1 x2 ((10 : Int32) * q21) x2 (x0 + 2) (mI m y2 y1.toNatClampNeg y0))))) = some fin := hm
  obtain ⟨g17, hm⟩ := g_no hm
  refine sI X hI hy2 g17 dX0_begin_36 (fun H locs hI => ?_)
  refine lv_aload_n hx hb dX0_begin_37 rfl (lv_at hl 0 rfl) ?_
  refine gR X hI fdX0_15 hx0 rf0_1 dX0_begin_38 ?_
  refine lv_iload_n hx hb dX0_begin_41 rfl (lv_at hl 2 rfl) ?_
  refine lv_iload_n hx hb dX0_begin_42 rfl (lv_at hl 3 rfl) ?_
  refine lv_if_eq (tgt := 61) hx hb dX0_begin_43 (by decide) (fun c18 => ?_) (fun c18 => ?_)
  · have hm := g_t c18 hm
    refine lv_iconst (v := (0 : Int32)) hx hb dX0_begin_61 (by decide) ?_
    exact tX0_begin_62 N hn X hr fin hk2 x0 x1 x2 (0 : Int32) x2 (x0 + 2) (mI m y2 y1.toNatClampNeg y0) H locs ls hx0 hx1 (lf0_1 hn hx0) hI (lv_sub hl [0, 1, 2] rfl) hm
  · have hm := g_f c18 hm
    refine lv_bipush (v := (10 : Int32)) hx hb dX0_begin_46 (by decide) ?_
    refine lv_aload_n hx hb dX0_begin_48 rfl (lv_at hl 1 rfl) ?_
    refine gR X hI fdX0_45 hx1 rf6_1 dX0_begin_49 ?_
    refine lv_iload_n hx hb dX0_begin_52 rfl (lv_at hl 2 rfl) ?_
    refine lv_iconst (v := (2 : Int32)) hx hb dX0_begin_53 (by decide) ?_
    obtain ⟨q21, h22, hm⟩ := g_b hm
    refine backI X hI (runV X hI (ctX9_cell (x1 + 3) x2 (2 : Int32) (lf6_1 hn hx1) hn _ _ h22 _) mdX0_49 (lf6_1 hn hx1) rfl ⟨rfl, rfl⟩ ⟨Nat.le_of_ble_eq_true rfl, Nat.le_of_ble_eq_true rfl⟩ rfl hl.1 rfl (Nat.le_of_ble_eq_true rfl) dX0_begin_54) (fun H locs hI => ?_)
    refine lv_imul hx hb dX0_begin_57 ?_
    refine lv_goto (tgt := 62) hx hb dX0_begin_58 (by decide) ?_
    exact tX0_begin_62 N hn X hr fin hk2 x0 x1 x2 ((10 : Int32) * q21) x2 (x0 + 2) (mI m y2 y1.toNatClampNeg y0) H locs ls hx0 hx1 (lf0_1 hn hx0) hI (lv_sub hl [0, 1, 2] rfl) hm
def fX0_begin_2 (N : Nat) (k77 : Nat → Nat → Mem → Option Mem) : Nat → Nat → Nat → Int32 → Mem → Option Mem
  | 0, _, _, _, _ => none
  | n + 1, x0, x1, x2, m => if (6 : Int32) ≤ x2 then (k77 x0 x1 m) else ((fX6_hasTub x1 x2 m).bind (fun q14 => if q14 = 0 then (fX0_begin_36 N (fun x0 x1 x2 m => fX0_begin_2 N k77 n x0 x1 x2 m) x0 x1 x2 q14 (0 : Int32) x2 (x0 + 1) m) else ((fX9_cell (x1 + 3) x2 (1 : Int32) m).bind (fun q23 => fX0_begin_36 N (fun x0 x1 x2 m => fX0_begin_2 N k77 n x0 x1 x2 m) x0 x1 x2 q14 q23 x2 (x0 + 1) m))))
set_option maxHeartbeats 4000000 in
set_option maxRecDepth 100000 in
theorem tX0_begin_2 (N : Nat) {l : Launch} {D : va_G} {ca : Nat → ClassId} {ad : Nat → Nat} {p : Program} {e : Env} {s : State} {mm : MethodId} {args : Array Value} {below : List Frame} {meth : Method} {c : Code} {k77 : Nat → Nat → Mem → Option Mem} (hn : HNc ca) (X : CX p s mm args meth c cX0_begin 4 RX0 D ca ad (WA ca ad s.heap.size)) (hr : meth.sig.returnType = none) (fin : Mem) (hk77 : ∀ (x0 : Nat) (x1 : Nat) (m : Mem) (H : Heap) (locs : List Loc) (ls : Array Slot), ly ca x0 = (0, 0) → ly ca x1 = (0, 6) → IW D ca ad (WA ca ad s.heap.size) s m H locs → lv_has ls 4 [(0, .ref (ad x0)), (1, .ref (ad x1))] → k77 x0 x1 m = some fin → W p l e rmX0_begin s mm args below meth c H locs 0 0 (MQ below (QV D ca ad s.heap.size fin) args s 0 0 (WA ca ad s.heap.size)) (F0 mm 77 ls [])) : ∀ (n : Nat) (x0 : Nat) (x1 : Nat) (x2 : Int32) (m : Mem) (H : Heap) (locs : List Loc) (ls : Array Slot), ly ca x0 = (0, 0) → ly ca x1 = (0, 6) → IW D ca ad (WA ca ad s.heap.size) s m H locs → lv_has ls 4 [(0, .ref (ad x0)), (1, .ref (ad x1)), (2, .int x2)] → fX0_begin_2 N k77 n x0 x1 x2 m = some fin → W p l e rmX0_begin s mm args below meth c H locs 0 0 (MQ below (QV D ca ad s.heap.size fin) args s 0 0 (WA ca ad s.heap.size)) (F0 mm 2 ls []) := by
  have hx := X.1
  have hb := X.2.1
  intro n
  induction n with
  | zero => intro x0 x1 x2 m H locs ls hx0 hx1 hI hl hm
            exact absurd hm (by intro q; cases q)
  | succ n ih =>
    intro x0 x1 x2 m H locs ls hx0 hx1 hI hl hm
    have hm : (if (6 : Int32) ≤ x2 then (k77 x0 x1 m) else ((fX6_hasTub x1 x2 m).bind (fun q14 => if q14 = 0 then (fX0_begin_36 N (fun x0 x1 x2 m => fX0_begin_2 N k77 n x0 x1 x2 m) x0 x1 x2 q14 (0 : Int32) x2 (x0 + 1) m) else ((fX9_cell (x1 + 3) x2 (1 : Int32) m).bind (fun q23 => fX0_begin_36 N (fun x0 x1 x2 m => fX0_begin_2 N k77 n x0 x1 x2 m) x0 x1 x2 q14 q23 x2 (x0 + 1) m))))) = some fin := hm
    refine lv_iload_n hx hb dX0_begin_2 rfl (lv_at hl 2 rfl) ?_
    refine lv_bipush (v := (6 : Int32)) hx hb dX0_begin_3 (by decide) ?_
    refine lv_icmp_ge (tgt := 77) hx hb dX0_begin_5 (by decide) (fun c13 => ?_) (fun c13 => ?_)
    · have hm := g_t c13 hm
      exact hk77 x0 x1 m H locs ls hx0 hx1 hI (lv_sub hl [0, 1] rfl) hm
    · have hm := g_f c13 hm
      refine lv_aload_n hx hb dX0_begin_8 rfl (lv_at hl 1 rfl) ?_
      refine lv_iload_n hx hb dX0_begin_9 rfl (lv_at hl 2 rfl) ?_
      obtain ⟨q14, h15, hm⟩ := g_b hm
      refine backI X hI (runV X hI (ctX6_hasTub x1 x2 hx1 hn _ _ h15 _) mdX0_39 hx1 rfl ⟨rfl, rfl⟩ ⟨Nat.le_of_ble_eq_true rfl, Nat.le_of_ble_eq_true rfl⟩ rfl hl.1 rfl (Nat.le_of_ble_eq_true rfl) dX0_begin_10) (fun H locs hI => ?_)
      refine lv_istore_n (lv' := [(3, .int q14), (0, .ref (ad x0)), (1, .ref (ad x1)), (2, .int x2)]) hx hb dX0_begin_13 rfl hl (by decide) rfl (fun ls hl => ?_)
      refine lv_aload_n hx hb dX0_begin_14 rfl (lv_at hl 1 rfl) ?_
      refine gR X hI fdX0_9 hx0 rf0_0 dX0_begin_15 ?_
      refine lv_iload_n hx hb dX0_begin_18 rfl (lv_at hl 3 rfl) ?_
      refine lv_iload_n hx hb dX0_begin_19 rfl (lv_at hl 0 rfl) ?_
      refine lv_if_eq (tgt := 35) hx hb dX0_begin_20 (by decide) (fun c16 => ?_) (fun c16 => ?_)
      · have hm := g_t c16 hm
        refine lv_iconst (v := (0 : Int32)) hx hb dX0_begin_35 (by decide) ?_
        exact tX0_begin_36 N hn X hr fin ih x0 x1 x2 q14 (0 : Int32) x2 (x0 + 1) m H locs ls hx0 hx1 (lf0_0 hn hx0) hI (lv_sub hl [1, 2, 3, 0] rfl) hm
      · have hm := g_f c16 hm
        refine lv_aload_n hx hb dX0_begin_23 rfl (lv_at hl 2 rfl) ?_
        refine gR X hI fdX0_45 hx1 rf6_1 dX0_begin_24 ?_
        refine lv_iload_n hx hb dX0_begin_27 rfl (lv_at hl 3 rfl) ?_
        refine lv_iconst (v := (1 : Int32)) hx hb dX0_begin_28 (by decide) ?_
        obtain ⟨q23, h24, hm⟩ := g_b hm
        refine backI X hI (runV X hI (ctX9_cell (x1 + 3) x2 (1 : Int32) (lf6_1 hn hx1) hn _ _ h24 _) mdX0_49 (lf6_1 hn hx1) rfl ⟨rfl, rfl⟩ ⟨Nat.le_of_ble_eq_true rfl, Nat.le_of_ble_eq_true rfl⟩ rfl hl.1 rfl (Nat.le_of_ble_eq_true rfl) dX0_begin_29) (fun H locs hI => ?_)
        refine lv_goto (tgt := 36) hx hb dX0_begin_32 (by decide) ?_
        exact tX0_begin_36 N hn X hr fin ih x0 x1 x2 q14 q23 x2 (x0 + 1) m H locs ls hx0 hx1 (lf0_0 hn hx0) hI (lv_sub hl [1, 2, 3, 0] rfl) hm
def fX0_begin (N : Nat) (x0 : Nat) (x1 : Nat) (m : Mem) : Option Mem := fX0_begin_2 N (fX0_begin_77 N) N x0 x1 (0 : Int32) m
set_option maxHeartbeats 4000000 in
set_option maxRecDepth 100000 in
theorem ctX0_begin {l : Launch} {D : va_G} {ca : Nat → ClassId} {ad : Nat → Nat} (N : Nat) (x0 : Nat) (x1 : Nat) (hx0 : ly ca x0 = (0, 0)) (hx1 : ly ca x1 = (0, 6)) (hn : HNc ca) (m : Mem) (fin : Mem) (hm : fX0_begin N x0 x1 m = some fin) : CV l D ca ad yX0_begin cwX0_begin rmX0_begin [.ref (ad x0), .ref (ad x1)] m fin := by
  refine start (by decide) (Nat.le_of_ble_eq_true rfl) ?_
  intro p e s mm args below meth c H locs ls X hI hr hl
  have X : CX p s mm args meth c cX0_begin 4 RX0 D ca ad (WA ca ad s.heap.size) := X
  have hx := X.1
  have hb := X.2.1
  have hl : lv_has ls 4 [(0, .ref (ad x0)), (1, .ref (ad x1))] := hl
  have hm : (fX0_begin_2 N (fX0_begin_77 N) N x0 x1 (0 : Int32) m) = some fin := hm
  refine lv_iconst (v := (0 : Int32)) hx hb dX0_begin_0 (by decide) ?_
  refine lv_istore_n (lv' := [(2, .int (0 : Int32)), (0, .ref (ad x0)), (1, .ref (ad x1))]) hx hb dX0_begin_1 rfl hl (by decide) rfl (fun ls hl => ?_)
  exact tX0_begin_2 N hn X hr fin (tX0_begin_77 N hn X hr fin ) N x0 x1 (0 : Int32) m H locs ls hx0 hx1 hI (lv_sub hl [1, 2, 0] rfl) hm
abbrev rmX0_become : Room := { frames := 1, cells := 0, slots := 0, locals := 28 }
def fX0_become  (x0 : Nat) (x1 : Nat) (m : Mem) : Option Mem := if (0 : Int32) < 0 ∨ (0 : Int32) < 0 ∨ (6 : Int32) < 0 ∨ 6 < (0 : Int32).toNatClampNeg + (6 : Int32).toNatClampNeg ∨ 6 < (0 : Int32).toNatClampNeg + (6 : Int32).toNatClampNeg then none else (if (0 : Int32) < 0 ∨ (0 : Int32) < 0 ∨ (6 : Int32) < 0 ∨ 6 < (0 : Int32).toNatClampNeg + (6 : Int32).toNatClampNeg ∨ 6 < (0 : Int32).toNatClampNeg + (6 : Int32).toNatClampNeg then none else (if (0 : Int32) < 0 ∨ (0 : Int32) < 0 ∨ (6 : Int32) < 0 ∨ 6 < (0 : Int32).toNatClampNeg + (6 : Int32).toNatClampNeg ∨ 6 < (0 : Int32).toNatClampNeg + (6 : Int32).toNatClampNeg then none else (if (0 : Int32) < 0 ∨ (0 : Int32) < 0 ∨ (6 : Int32) < 0 ∨ 6 < (0 : Int32).toNatClampNeg + (6 : Int32).toNatClampNeg ∨ 6 < (0 : Int32).toNatClampNeg + (6 : Int32).toNatClampNeg then none else (if (0 : Int32) < 0 ∨ (0 : Int32) < 0 ∨ (6 : Int32) < 0 ∨ 6 < (0 : Int32).toNatClampNeg + (6 : Int32).toNatClampNeg ∨ 6 < (0 : Int32).toNatClampNeg + (6 : Int32).toNatClampNeg then none else (if (0 : Int32) < 0 ∨ (0 : Int32) < 0 ∨ (6 : Int32) < 0 ∨ 6 < (0 : Int32).toNatClampNeg + (6 : Int32).toNatClampNeg ∨ 6 < (0 : Int32).toNatClampNeg + (6 : Int32).toNatClampNeg then none else (if (0 : Int32) < 0 ∨ (0 : Int32) < 0 ∨ (6 : Int32) < 0 ∨ 6 < (0 : Int32).toNatClampNeg + (6 : Int32).toNatClampNeg ∨ 6 < (0 : Int32).toNatClampNeg + (6 : Int32).toNatClampNeg then none else (if (0 : Int32) < 0 ∨ (0 : Int32) < 0 ∨ (6 : Int32) < 0 ∨ 6 < (0 : Int32).toNatClampNeg + (6 : Int32).toNatClampNeg ∨ 6 < (0 : Int32).toNatClampNeg + (6 : Int32).toNatClampNeg then none else (if (0 : Int32) < 0 ∨ (0 : Int32) < 0 ∨ (6 : Int32) < 0 ∨ 6 < (0 : Int32).toNatClampNeg + (6 : Int32).toNatClampNeg ∨ 6 < (0 : Int32).toNatClampNeg + (6 : Int32).toNatClampNeg then none else (some (mJ (mI (mI (mC (mC (mC (mC (mC (mC (mC (mC (mC m (x1 + 1) (0 : Int32).toNatClampNeg (x0 + 1) (0 : Int32).toNatClampNeg (6 : Int32).toNatClampNeg) (x1 + 2) (0 : Int32).toNatClampNeg (x0 + 2) (0 : Int32).toNatClampNeg (6 : Int32).toNatClampNeg) (x1 + 3) (0 : Int32).toNatClampNeg (x0 + 3) (0 : Int32).toNatClampNeg (6 : Int32).toNatClampNeg) (x1 + 4) (0 : Int32).toNatClampNeg (x0 + 4) (0 : Int32).toNatClampNeg (6 : Int32).toNatClampNeg) (x1 + 5) (0 : Int32).toNatClampNeg (x0 + 5) (0 : Int32).toNatClampNeg (6 : Int32).toNatClampNeg) (x1 + 6) (0 : Int32).toNatClampNeg (x0 + 6) (0 : Int32).toNatClampNeg (6 : Int32).toNatClampNeg) (x1 + 7) (0 : Int32).toNatClampNeg (x0 + 7) (0 : Int32).toNatClampNeg (6 : Int32).toNatClampNeg) (x1 + 8) (0 : Int32).toNatClampNeg (x0 + 8) (0 : Int32).toNatClampNeg (6 : Int32).toNatClampNeg) (x1 + 9) (0 : Int32).toNatClampNeg (x0 + 9) (0 : Int32).toNatClampNeg (6 : Int32).toNatClampNeg) x0 9 ((mC (mC (mC (mC (mC (mC (mC (mC (mC m (x1 + 1) (0 : Int32).toNatClampNeg (x0 + 1) (0 : Int32).toNatClampNeg (6 : Int32).toNatClampNeg) (x1 + 2) (0 : Int32).toNatClampNeg (x0 + 2) (0 : Int32).toNatClampNeg (6 : Int32).toNatClampNeg) (x1 + 3) (0 : Int32).toNatClampNeg (x0 + 3) (0 : Int32).toNatClampNeg (6 : Int32).toNatClampNeg) (x1 + 4) (0 : Int32).toNatClampNeg (x0 + 4) (0 : Int32).toNatClampNeg (6 : Int32).toNatClampNeg) (x1 + 5) (0 : Int32).toNatClampNeg (x0 + 5) (0 : Int32).toNatClampNeg (6 : Int32).toNatClampNeg) (x1 + 6) (0 : Int32).toNatClampNeg (x0 + 6) (0 : Int32).toNatClampNeg (6 : Int32).toNatClampNeg) (x1 + 7) (0 : Int32).toNatClampNeg (x0 + 7) (0 : Int32).toNatClampNeg (6 : Int32).toNatClampNeg) (x1 + 8) (0 : Int32).toNatClampNeg (x0 + 8) (0 : Int32).toNatClampNeg (6 : Int32).toNatClampNeg) (x1 + 9) (0 : Int32).toNatClampNeg (x0 + 9) (0 : Int32).toNatClampNeg (6 : Int32).toNatClampNeg).1 x1 9)) x0 10 ((mI (mC (mC (mC (mC (mC (mC (mC (mC (mC m (x1 + 1) (0 : Int32).toNatClampNeg (x0 + 1) (0 : Int32).toNatClampNeg (6 : Int32).toNatClampNeg) (x1 + 2) (0 : Int32).toNatClampNeg (x0 + 2) (0 : Int32).toNatClampNeg (6 : Int32).toNatClampNeg) (x1 + 3) (0 : Int32).toNatClampNeg (x0 + 3) (0 : Int32).toNatClampNeg (6 : Int32).toNatClampNeg) (x1 + 4) (0 : Int32).toNatClampNeg (x0 + 4) (0 : Int32).toNatClampNeg (6 : Int32).toNatClampNeg) (x1 + 5) (0 : Int32).toNatClampNeg (x0 + 5) (0 : Int32).toNatClampNeg (6 : Int32).toNatClampNeg) (x1 + 6) (0 : Int32).toNatClampNeg (x0 + 6) (0 : Int32).toNatClampNeg (6 : Int32).toNatClampNeg) (x1 + 7) (0 : Int32).toNatClampNeg (x0 + 7) (0 : Int32).toNatClampNeg (6 : Int32).toNatClampNeg) (x1 + 8) (0 : Int32).toNatClampNeg (x0 + 8) (0 : Int32).toNatClampNeg (6 : Int32).toNatClampNeg) (x1 + 9) (0 : Int32).toNatClampNeg (x0 + 9) (0 : Int32).toNatClampNeg (6 : Int32).toNatClampNeg) x0 9 ((mC (mC (mC (mC (mC (mC (mC (mC (mC m (x1 + 1) (0 : Int32).toNatClampNeg (x0 + 1) (0 : Int32).toNatClampNeg (6 : Int32).toNatClampNeg) (x1 + 2) (0 : Int32).toNatClampNeg (x0 + 2) (0 : Int32).toNatClampNeg (6 : Int32).toNatClampNeg) (x1 + 3) (0 : Int32).toNatClampNeg (x0 + 3) (0 : Int32).toNatClampNeg (6 : Int32).toNatClampNeg) (x1 + 4) (0 : Int32).toNatClampNeg (x0 + 4) (0 : Int32).toNatClampNeg (6 : Int32).toNatClampNeg) (x1 + 5) (0 : Int32).toNatClampNeg (x0 + 5) (0 : Int32).toNatClampNeg (6 : Int32).toNatClampNeg) (x1 + 6) (0 : Int32).toNatClampNeg (x0 + 6) (0 : Int32).toNatClampNeg (6 : Int32).toNatClampNeg) (x1 + 7) (0 : Int32).toNatClampNeg (x0 + 7) (0 : Int32).toNatClampNeg (6 : Int32).toNatClampNeg) (x1 + 8) (0 : Int32).toNatClampNeg (x0 + 8) (0 : Int32).toNatClampNeg (6 : Int32).toNatClampNeg) (x1 + 9) (0 : Int32).toNatClampNeg (x0 + 9) (0 : Int32).toNatClampNeg (6 : Int32).toNatClampNeg).1 x1 9)).1 x1 10)) x0 11 ((mI (mI (mC (mC (mC (mC (mC (mC (mC (mC (mC m (x1 + 1) (0 : Int32).toNatClampNeg (x0 + 1) (0 : Int32).toNatClampNeg (6 : Int32).toNatClampNeg) (x1 + 2) (0 : Int32).toNatClampNeg (x0 + 2) (0 : Int32).toNatClampNeg (6 : Int32).toNatClampNeg) (x1 + 3) (0 : Int32).toNatClampNeg (x0 + 3) (0 : Int32).toNatClampNeg (6 : Int32).toNatClampNeg) (x1 + 4) (0 : Int32).toNatClampNeg (x0 + 4) (0 : Int32).toNatClampNeg (6 : Int32).toNatClampNeg) (x1 + 5) (0 : Int32).toNatClampNeg (x0 + 5) (0 : Int32).toNatClampNeg (6 : Int32).toNatClampNeg) (x1 + 6) (0 : Int32).toNatClampNeg (x0 + 6) (0 : Int32).toNatClampNeg (6 : Int32).toNatClampNeg) (x1 + 7) (0 : Int32).toNatClampNeg (x0 + 7) (0 : Int32).toNatClampNeg (6 : Int32).toNatClampNeg) (x1 + 8) (0 : Int32).toNatClampNeg (x0 + 8) (0 : Int32).toNatClampNeg (6 : Int32).toNatClampNeg) (x1 + 9) (0 : Int32).toNatClampNeg (x0 + 9) (0 : Int32).toNatClampNeg (6 : Int32).toNatClampNeg) x0 9 ((mC (mC (mC (mC (mC (mC (mC (mC (mC m (x1 + 1) (0 : Int32).toNatClampNeg (x0 + 1) (0 : Int32).toNatClampNeg (6 : Int32).toNatClampNeg) (x1 + 2) (0 : Int32).toNatClampNeg (x0 + 2) (0 : Int32).toNatClampNeg (6 : Int32).toNatClampNeg) (x1 + 3) (0 : Int32).toNatClampNeg (x0 + 3) (0 : Int32).toNatClampNeg (6 : Int32).toNatClampNeg) (x1 + 4) (0 : Int32).toNatClampNeg (x0 + 4) (0 : Int32).toNatClampNeg (6 : Int32).toNatClampNeg) (x1 + 5) (0 : Int32).toNatClampNeg (x0 + 5) (0 : Int32).toNatClampNeg (6 : Int32).toNatClampNeg) (x1 + 6) (0 : Int32).toNatClampNeg (x0 + 6) (0 : Int32).toNatClampNeg (6 : Int32).toNatClampNeg) (x1 + 7) (0 : Int32).toNatClampNeg (x0 + 7) (0 : Int32).toNatClampNeg (6 : Int32).toNatClampNeg) (x1 + 8) (0 : Int32).toNatClampNeg (x0 + 8) (0 : Int32).toNatClampNeg (6 : Int32).toNatClampNeg) (x1 + 9) (0 : Int32).toNatClampNeg (x0 + 9) (0 : Int32).toNatClampNeg (6 : Int32).toNatClampNeg).1 x1 9)) x0 10 ((mI (mC (mC (mC (mC (mC (mC (mC (mC (mC m (x1 + 1) (0 : Int32).toNatClampNeg (x0 + 1) (0 : Int32).toNatClampNeg (6 : Int32).toNatClampNeg) (x1 + 2) (0 : Int32).toNatClampNeg (x0 + 2) (0 : Int32).toNatClampNeg (6 : Int32).toNatClampNeg) (x1 + 3) (0 : Int32).toNatClampNeg (x0 + 3) (0 : Int32).toNatClampNeg (6 : Int32).toNatClampNeg) (x1 + 4) (0 : Int32).toNatClampNeg (x0 + 4) (0 : Int32).toNatClampNeg (6 : Int32).toNatClampNeg) (x1 + 5) (0 : Int32).toNatClampNeg (x0 + 5) (0 : Int32).toNatClampNeg (6 : Int32).toNatClampNeg) (x1 + 6) (0 : Int32).toNatClampNeg (x0 + 6) (0 : Int32).toNatClampNeg (6 : Int32).toNatClampNeg) (x1 + 7) (0 : Int32).toNatClampNeg (x0 + 7) (0 : Int32).toNatClampNeg (6 : Int32).toNatClampNeg) (x1 + 8) (0 : Int32).toNatClampNeg (x0 + 8) (0 : Int32).toNatClampNeg (6 : Int32).toNatClampNeg) (x1 + 9) (0 : Int32).toNatClampNeg (x0 + 9) (0 : Int32).toNatClampNeg (6 : Int32).toNatClampNeg) x0 9 ((mC (mC (mC (mC (mC (mC (mC (mC (mC m (x1 + 1) (0 : Int32).toNatClampNeg (x0 + 1) (0 : Int32).toNatClampNeg (6 : Int32).toNatClampNeg) (x1 + 2) (0 : Int32).toNatClampNeg (x0 + 2) (0 : Int32).toNatClampNeg (6 : Int32).toNatClampNeg) (x1 + 3) (0 : Int32).toNatClampNeg (x0 + 3) (0 : Int32).toNatClampNeg (6 : Int32).toNatClampNeg) (x1 + 4) (0 : Int32).toNatClampNeg (x0 + 4) (0 : Int32).toNatClampNeg (6 : Int32).toNatClampNeg) (x1 + 5) (0 : Int32).toNatClampNeg (x0 + 5) (0 : Int32).toNatClampNeg (6 : Int32).toNatClampNeg) (x1 + 6) (0 : Int32).toNatClampNeg (x0 + 6) (0 : Int32).toNatClampNeg (6 : Int32).toNatClampNeg) (x1 + 7) (0 : Int32).toNatClampNeg (x0 + 7) (0 : Int32).toNatClampNeg (6 : Int32).toNatClampNeg) (x1 + 8) (0 : Int32).toNatClampNeg (x0 + 8) (0 : Int32).toNatClampNeg (6 : Int32).toNatClampNeg) (x1 + 9) (0 : Int32).toNatClampNeg (x0 + 9) (0 : Int32).toNatClampNeg (6 : Int32).toNatClampNeg).1 x1 9)).1 x1 10)).2.1 x1 11)))))))))))
set_option maxHeartbeats 4000000 in
set_option maxRecDepth 100000 in
theorem ctX0_become {l : Launch} {D : va_G} {ca : Nat → ClassId} {ad : Nat → Nat}  (x0 : Nat) (x1 : Nat) (hx0 : ly ca x0 = (0, 0)) (hx1 : ly ca x1 = (0, 0)) (hn : HNc ca) (m : Mem) (fin : Mem) (hm : fX0_become x0 x1 m = some fin) : CV l D ca ad yX0_become cwX0_become rmX0_become [.ref (ad x0), .ref (ad x1)] m fin := by
  refine start (by decide) (Nat.le_of_ble_eq_true rfl) ?_
  intro p e s mm args below meth c H locs ls X hI hr hl
  have X : CX p s mm args meth c cX0_become 2 RX0 D ca ad (WA ca ad s.heap.size) := X
  have hx := X.1
  have hb := X.2.1
  have hl : lv_has ls 2 [(0, .ref (ad x0)), (1, .ref (ad x1))] := hl
  have hm : (if (0 : Int32) < 0 ∨ (0 : Int32) < 0 ∨ (6 : Int32) < 0 ∨ 6 < (0 : Int32).toNatClampNeg + (6 : Int32).toNatClampNeg ∨ 6 < (0 : Int32).toNatClampNeg + (6 : Int32).toNatClampNeg then none else (if (0 : Int32) < 0 ∨ (0 : Int32) < 0 ∨ (6 : Int32) < 0 ∨ 6 < (0 : Int32).toNatClampNeg + (6 : Int32).toNatClampNeg ∨ 6 < (0 : Int32).toNatClampNeg + (6 : Int32).toNatClampNeg then none else (if (0 : Int32) < 0 ∨ (0 : Int32) < 0 ∨ (6 : Int32) < 0 ∨ 6 < (0 : Int32).toNatClampNeg + (6 : Int32).toNatClampNeg ∨ 6 < (0 : Int32).toNatClampNeg + (6 : Int32).toNatClampNeg then none else (if (0 : Int32) < 0 ∨ (0 : Int32) < 0 ∨ (6 : Int32) < 0 ∨ 6 < (0 : Int32).toNatClampNeg + (6 : Int32).toNatClampNeg ∨ 6 < (0 : Int32).toNatClampNeg + (6 : Int32).toNatClampNeg then none else (if (0 : Int32) < 0 ∨ (0 : Int32) < 0 ∨ (6 : Int32) < 0 ∨ 6 < (0 : Int32).toNatClampNeg + (6 : Int32).toNatClampNeg ∨ 6 < (0 : Int32).toNatClampNeg + (6 : Int32).toNatClampNeg then none else (if (0 : Int32) < 0 ∨ (0 : Int32) < 0 ∨ (6 : Int32) < 0 ∨ 6 < (0 : Int32).toNatClampNeg + (6 : Int32).toNatClampNeg ∨ 6 < (0 : Int32).toNatClampNeg + (6 : Int32).toNatClampNeg then none else (if (0 : Int32) < 0 ∨ (0 : Int32) < 0 ∨ (6 : Int32) < 0 ∨ 6 < (0 : Int32).toNatClampNeg + (6 : Int32).toNatClampNeg ∨ 6 < (0 : Int32).toNatClampNeg + (6 : Int32).toNatClampNeg then none else (if (0 : Int32) < 0 ∨ (0 : Int32) < 0 ∨ (6 : Int32) < 0 ∨ 6 < (0 : Int32).toNatClampNeg + (6 : Int32).toNatClampNeg ∨ 6 < (0 : Int32).toNatClampNeg + (6 : Int32).toNatClampNeg then none else (if (0 : Int32) < 0 ∨ (0 : Int32) < 0 ∨ (6 : Int32) < 0 ∨ 6 < (0 : Int32).toNatClampNeg + (6 : Int32).toNatClampNeg ∨ 6 < (0 : Int32).toNatClampNeg + (6 : Int32).toNatClampNeg then none else (some (mJ (mI (mI (mC (mC (mC (mC (mC (mC (mC (mC (mC m (x1 + 1) (0 : Int32).toNatClampNeg (x0 + 1) (0 : Int32).toNatClampNeg (6 : Int32).toNatClampNeg) (x1 + 2) (0 : Int32).toNatClampNeg (x0 + 2) (0 : Int32).toNatClampNeg (6 : Int32).toNatClampNeg) (x1 + 3) (0 : Int32).toNatClampNeg (x0 + 3) (0 : Int32).toNatClampNeg (6 : Int32).toNatClampNeg) (x1 + 4) (0 : Int32).toNatClampNeg (x0 + 4) (0 : Int32).toNatClampNeg (6 : Int32).toNatClampNeg) (x1 + 5) (0 : Int32).toNatClampNeg (x0 + 5) (0 : Int32).toNatClampNeg (6 : Int32).toNatClampNeg) (x1 + 6) (0 : Int32).toNatClampNeg (x0 + 6) (0 : Int32).toNatClampNeg (6 : Int32).toNatClampNeg) (x1 + 7) (0 : Int32).toNatClampNeg (x0 + 7) (0 : Int32).toNatClampNeg (6 : Int32).toNatClampNeg) (x1 + 8) (0 : Int32).toNatClampNeg (x0 + 8) (0 : Int32).toNatClampNeg (6 : Int32).toNatClampNeg) (x1 + 9) (0 : Int32).toNatClampNeg (x0 + 9) (0 : Int32).toNatClampNeg (6 : Int32).toNatClampNeg) x0 9 ((mC (mC (mC (mC (mC (mC (mC (mC (mC m (x1 + 1) (0 : Int32).toNatClampNeg (x0 + 1) (0 : Int32).toNatClampNeg (6 : Int32).toNatClampNeg) (x1 + 2) (0 : Int32).toNatClampNeg (x0 + 2) (0 : Int32).toNatClampNeg (6 : Int32).toNatClampNeg) (x1 + 3) (0 : Int32).toNatClampNeg (x0 + 3) (0 : Int32).toNatClampNeg (6 : Int32).toNatClampNeg) (x1 + 4) (0 : Int32).toNatClampNeg (x0 + 4) (0 : Int32).toNatClampNeg (6 : Int32).toNatClampNeg) (x1 + 5) (0 : Int32).toNatClampNeg (x0 + 5) (0 : Int32).toNatClampNeg (6 : Int32).toNatClampNeg) (x1 + 6) (0 : Int32).toNatClampNeg (x0 + 6) (0 : Int32).toNatClampNeg (6 : Int32).toNatClampNeg) (x1 + 7) (0 : Int32).toNatClampNeg (x0 + 7) (0 : Int32).toNatClampNeg (6 : Int32).toNatClampNeg) (x1 + 8) (0 : Int32).toNatClampNeg (x0 + 8) (0 : Int32).toNatClampNeg (6 : Int32).toNatClampNeg) (x1 + 9) (0 : Int32).toNatClampNeg (x0 + 9) (0 : Int32).toNatClampNeg (6 : Int32).toNatClampNeg).1 x1 9)) x0 10 ((mI (mC (mC (mC (mC (mC (mC (mC (mC (mC m (x1 + 1) (0 : Int32).toNatClampNeg (x0 + 1) (0 : Int32).toNatClampNeg (6 : Int32).toNatClampNeg) (x1 + 2) (0 : Int32).toNatClampNeg (x0 + 2) (0 : Int32).toNatClampNeg (6 : Int32).toNatClampNeg) (x1 + 3) (0 : Int32).toNatClampNeg (x0 + 3) (0 : Int32).toNatClampNeg (6 : Int32).toNatClampNeg) (x1 + 4) (0 : Int32).toNatClampNeg (x0 + 4) (0 : Int32).toNatClampNeg (6 : Int32).toNatClampNeg) (x1 + 5) (0 : Int32).toNatClampNeg (x0 + 5) (0 : Int32).toNatClampNeg (6 : Int32).toNatClampNeg) (x1 + 6) (0 : Int32).toNatClampNeg (x0 + 6) (0 : Int32).toNatClampNeg (6 : Int32).toNatClampNeg) (x1 + 7) (0 : Int32).toNatClampNeg (x0 + 7) (0 : Int32).toNatClampNeg (6 : Int32).toNatClampNeg) (x1 + 8) (0 : Int32).toNatClampNeg (x0 + 8) (0 : Int32).toNatClampNeg (6 : Int32).toNatClampNeg) (x1 + 9) (0 : Int32).toNatClampNeg (x0 + 9) (0 : Int32).toNatClampNeg (6 : Int32).toNatClampNeg) x0 9 ((mC (mC (mC (mC (mC (mC (mC (mC (mC m (x1 + 1) (0 : Int32).toNatClampNeg (x0 + 1) (0 : Int32).toNatClampNeg (6 : Int32).toNatClampNeg) (x1 + 2) (0 : Int32).toNatClampNeg (x0 + 2) (0 : Int32).toNatClampNeg (6 : Int32).toNatClampNeg) (x1 + 3) (0 : Int32).toNatClampNeg (x0 + 3) (0 : Int32).toNatClampNeg (6 : Int32).toNatClampNeg) (x1 + 4) (0 : Int32).toNatClampNeg (x0 + 4) (0 : Int32).toNatClampNeg (6 : Int32).toNatClampNeg) (x1 + 5) (0 : Int32).toNatClampNeg (x0 + 5) (0 : Int32).toNatClampNeg (6 : Int32).toNatClampNeg) (x1 + 6) (0 : Int32).toNatClampNeg (x0 + 6) (0 : Int32).toNatClampNeg (6 : Int32).toNatClampNeg) (x1 + 7) (0 : Int32).toNatClampNeg (x0 + 7) (0 : Int32).toNatClampNeg (6 : Int32).toNatClampNeg) (x1 + 8) (0 : Int32).toNatClampNeg (x0 + 8) (0 : Int32).toNatClampNeg (6 : Int32).toNatClampNeg) (x1 + 9) (0 : Int32).toNatClampNeg (x0 + 9) (0 : Int32).toNatClampNeg (6 : Int32).toNatClampNeg).1 x1 9)).1 x1 10)) x0 11 ((mI (mI (mC (mC (mC (mC (mC (mC (mC (mC (mC m (x1 + 1) (0 : Int32).toNatClampNeg (x0 + 1) (0 : Int32).toNatClampNeg (6 : Int32).toNatClampNeg) (x1 + 2) (0 : Int32).toNatClampNeg (x0 + 2) (0 : Int32).toNatClampNeg (6 : Int32).toNatClampNeg) (x1 + 3) (0 : Int32).toNatClampNeg (x0 + 3) (0 : Int32).toNatClampNeg (6 : Int32).toNatClampNeg) (x1 + 4) (0 : Int32).toNatClampNeg (x0 + 4) (0 : Int32).toNatClampNeg (6 : Int32).toNatClampNeg) (x1 + 5) (0 : Int32).toNatClampNeg (x0 + 5) (0 : Int32).toNatClampNeg (6 : Int32).toNatClampNeg) (x1 + 6) (0 : Int32).toNatClampNeg (x0 + 6) (0 : Int32).toNatClampNeg (6 : Int32).toNatClampNeg) (x1 + 7) (0 : Int32).toNatClampNeg (x0 + 7) (0 : Int32).toNatClampNeg (6 : Int32).toNatClampNeg) (x1 + 8) (0 : Int32).toNatClampNeg (x0 + 8) (0 : Int32).toNatClampNeg (6 : Int32).toNatClampNeg) (x1 + 9) (0 : Int32).toNatClampNeg (x0 + 9) (0 : Int32).toNatClampNeg (6 : Int32).toNatClampNeg) x0 9 ((mC (mC (mC (mC (mC (mC (mC (mC (mC m (x1 + 1) (0 : Int32).toNatClampNeg (x0 + 1) (0 : Int32).toNatClampNeg (6 : Int32).toNatClampNeg) (x1 + 2) (0 : Int32).toNatClampNeg (x0 + 2) (0 : Int32).toNatClampNeg (6 : Int32).toNatClampNeg) (x1 + 3) (0 : Int32).toNatClampNeg (x0 + 3) (0 : Int32).toNatClampNeg (6 : Int32).toNatClampNeg) (x1 + 4) (0 : Int32).toNatClampNeg (x0 + 4) (0 : Int32).toNatClampNeg (6 : Int32).toNatClampNeg) (x1 + 5) (0 : Int32).toNatClampNeg (x0 + 5) (0 : Int32).toNatClampNeg (6 : Int32).toNatClampNeg) (x1 + 6) (0 : Int32).toNatClampNeg (x0 + 6) (0 : Int32).toNatClampNeg (6 : Int32).toNatClampNeg) (x1 + 7) (0 : Int32).toNatClampNeg (x0 + 7) (0 : Int32).toNatClampNeg (6 : Int32).toNatClampNeg) (x1 + 8) (0 : Int32).toNatClampNeg (x0 + 8) (0 : Int32).toNatClampNeg (6 : Int32).toNatClampNeg) (x1 + 9) (0 : Int32).toNatClampNeg (x0 + 9) (0 : Int32).toNatClampNeg (6 : Int32).toNatClampNeg).1 x1 9)) x0 10 ((mI (mC (mC (mC (mC (mC (mC (mC (mC (mC m (x1 + 1) (0 : Int32).toNatClampNeg (x0 + 1) (0 : Int32).toNatClampNeg (6 : Int32).toNatClampNeg) (x1 + 2) (0 : Int32).toNatClampNeg (x0 + 2) (0 : Int32).toNatClampNeg (6 : Int32).toNatClampNeg) (x1 + 3) (0 : Int32).toNatClampNeg (x0 + 3) (0 : Int32).toNatClampNeg (6 : Int32).toNatClampNeg) (x1 + 4) (0 : Int32).toNatClampNeg (x0 + 4) (0 : Int32).toNatClampNeg (6 : Int32).toNatClampNeg) (x1 + 5) (0 : Int32).toNatClampNeg (x0 + 5) (0 : Int32).toNatClampNeg (6 : Int32).toNatClampNeg) (x1 + 6) (0 : Int32).toNatClampNeg (x0 + 6) (0 : Int32).toNatClampNeg (6 : Int32).toNatClampNeg) (x1 + 7) (0 : Int32).toNatClampNeg (x0 + 7) (0 : Int32).toNatClampNeg (6 : Int32).toNatClampNeg) (x1 + 8) (0 : Int32).toNatClampNeg (x0 + 8) (0 : Int32).toNatClampNeg (6 : Int32).toNatClampNeg) (x1 + 9) (0 : Int32).toNatClampNeg (x0 + 9) (0 : Int32).toNatClampNeg (6 : Int32).toNatClampNeg) x0 9 ((mC (mC (mC (mC (mC (mC (mC (mC (mC m (x1 + 1) (0 : Int32).toNatClampNeg (x0 + 1) (0 : Int32).toNatClampNeg (6 : Int32).toNatClampNeg) (x1 + 2) (0 : Int32).toNatClampNeg (x0 + 2) (0 : Int32).toNatClampNeg (6 : Int32).toNatClampNeg) (x1 + 3) (0 : Int32).toNatClampNeg (x0 + 3) (0 : Int32).toNatClampNeg (6 : Int32).toNatClampNeg) (x1 + 4) (0 : Int32).toNatClampNeg (x0 + 4) (0 : Int32).toNatClampNeg (6 : Int32).toNatClampNeg) (x1 + 5) (0 : Int32).toNatClampNeg (x0 + 5) (0 : Int32).toNatClampNeg (6 : Int32).toNatClampNeg) (x1 + 6) (0 : Int32).toNatClampNeg (x0 + 6) (0 : Int32).toNatClampNeg (6 : Int32).toNatClampNeg) (x1 + 7) (0 : Int32).toNatClampNeg (x0 + 7) (0 : Int32).toNatClampNeg (6 : Int32).toNatClampNeg) (x1 + 8) (0 : Int32).toNatClampNeg (x0 + 8) (0 : Int32).toNatClampNeg (6 : Int32).toNatClampNeg) (x1 + 9) (0 : Int32).toNatClampNeg (x0 + 9) (0 : Int32).toNatClampNeg (6 : Int32).toNatClampNeg).1 x1 9)).1 x1 10)).2.1 x1 11)))))))))))) = some fin := hm
  refine lv_aload_n hx hb dX0_become_0 rfl (lv_at hl 1 rfl) ?_
  refine gR X hI fdX0_9 hx1 rf0_0 dX0_become_1 ?_
  refine lv_iconst (v := (0 : Int32)) hx hb dX0_become_4 (by decide) ?_
  refine lv_aload_n hx hb dX0_become_5 rfl (lv_at hl 0 rfl) ?_
  refine gR X hI fdX0_9 hx0 rf0_0 dX0_become_6 ?_
  refine lv_iconst (v := (0 : Int32)) hx hb dX0_become_9 (by decide) ?_
  refine lv_bipush (v := (6 : Int32)) hx hb dX0_become_10 (by decide) ?_
  obtain ⟨g1, hm⟩ := g_no hm
  refine kCopy X hI mpX0_75 hl.1 (Nat.le_of_ble_eq_true rfl) (Nat.le_of_ble_eq_true (by decide +kernel)) (lf0_0 hn hx1) (lf0_0 hn hx0) dX0_become_12 g1 (fun H locs hI => ?_)
  refine lv_aload_n hx hb dX0_become_15 rfl (lv_at hl 1 rfl) ?_
  refine gR X hI fdX0_15 hx1 rf0_1 dX0_become_16 ?_
  refine lv_iconst (v := (0 : Int32)) hx hb dX0_become_19 (by decide) ?_
  refine lv_aload_n hx hb dX0_become_20 rfl (lv_at hl 0 rfl) ?_
  refine gR X hI fdX0_15 hx0 rf0_1 dX0_become_21 ?_
  refine lv_iconst (v := (0 : Int32)) hx hb dX0_become_24 (by decide) ?_
  refine lv_bipush (v := (6 : Int32)) hx hb dX0_become_25 (by decide) ?_
  obtain ⟨g2, hm⟩ := g_no hm
  refine kCopy X hI mpX0_75 hl.1 (Nat.le_of_ble_eq_true rfl) (Nat.le_of_ble_eq_true (by decide +kernel)) (lf0_1 hn hx1) (lf0_1 hn hx0) dX0_become_27 g2 (fun H locs hI => ?_)
  refine lv_aload_n hx hb dX0_become_30 rfl (lv_at hl 1 rfl) ?_
  refine gR X hI fdX0_18 hx1 rf0_2 dX0_become_31 ?_
  refine lv_iconst (v := (0 : Int32)) hx hb dX0_become_34 (by decide) ?_
  refine lv_aload_n hx hb dX0_become_35 rfl (lv_at hl 0 rfl) ?_
  refine gR X hI fdX0_18 hx0 rf0_2 dX0_become_36 ?_
  refine lv_iconst (v := (0 : Int32)) hx hb dX0_become_39 (by decide) ?_
  refine lv_bipush (v := (6 : Int32)) hx hb dX0_become_40 (by decide) ?_
  obtain ⟨g3, hm⟩ := g_no hm
  refine kCopy X hI mpX0_75 hl.1 (Nat.le_of_ble_eq_true rfl) (Nat.le_of_ble_eq_true (by decide +kernel)) (lf0_2 hn hx1) (lf0_2 hn hx0) dX0_become_42 g3 (fun H locs hI => ?_)
  refine lv_aload_n hx hb dX0_become_45 rfl (lv_at hl 1 rfl) ?_
  refine gR X hI fdX0_21 hx1 rf0_3 dX0_become_46 ?_
  refine lv_iconst (v := (0 : Int32)) hx hb dX0_become_49 (by decide) ?_
  refine lv_aload_n hx hb dX0_become_50 rfl (lv_at hl 0 rfl) ?_
  refine gR X hI fdX0_21 hx0 rf0_3 dX0_become_51 ?_
  refine lv_iconst (v := (0 : Int32)) hx hb dX0_become_54 (by decide) ?_
  refine lv_bipush (v := (6 : Int32)) hx hb dX0_become_55 (by decide) ?_
  obtain ⟨g4, hm⟩ := g_no hm
  refine kCopy X hI mpX0_75 hl.1 (Nat.le_of_ble_eq_true rfl) (Nat.le_of_ble_eq_true (by decide +kernel)) (lf0_3 hn hx1) (lf0_3 hn hx0) dX0_become_57 g4 (fun H locs hI => ?_)
  refine lv_aload_n hx hb dX0_become_60 rfl (lv_at hl 1 rfl) ?_
  refine gR X hI fdX0_24 hx1 rf0_4 dX0_become_61 ?_
  refine lv_iconst (v := (0 : Int32)) hx hb dX0_become_64 (by decide) ?_
  refine lv_aload_n hx hb dX0_become_65 rfl (lv_at hl 0 rfl) ?_
  refine gR X hI fdX0_24 hx0 rf0_4 dX0_become_66 ?_
  refine lv_iconst (v := (0 : Int32)) hx hb dX0_become_69 (by decide) ?_
  refine lv_bipush (v := (6 : Int32)) hx hb dX0_become_70 (by decide) ?_
  obtain ⟨g5, hm⟩ := g_no hm
  refine kCopy X hI mpX0_75 hl.1 (Nat.le_of_ble_eq_true rfl) (Nat.le_of_ble_eq_true (by decide +kernel)) (lf0_4 hn hx1) (lf0_4 hn hx0) dX0_become_72 g5 (fun H locs hI => ?_)
  refine lv_aload_n hx hb dX0_become_75 rfl (lv_at hl 1 rfl) ?_
  refine gR X hI fdX0_27 hx1 rf0_5 dX0_become_76 ?_
  refine lv_iconst (v := (0 : Int32)) hx hb dX0_become_79 (by decide) ?_
  refine lv_aload_n hx hb dX0_become_80 rfl (lv_at hl 0 rfl) ?_
  refine gR X hI fdX0_27 hx0 rf0_5 dX0_become_81 ?_
  refine lv_iconst (v := (0 : Int32)) hx hb dX0_become_84 (by decide) ?_
  refine lv_bipush (v := (6 : Int32)) hx hb dX0_become_85 (by decide) ?_
  obtain ⟨g6, hm⟩ := g_no hm
  refine kCopy X hI mpX0_75 hl.1 (Nat.le_of_ble_eq_true rfl) (Nat.le_of_ble_eq_true (by decide +kernel)) (lf0_5 hn hx1) (lf0_5 hn hx0) dX0_become_87 g6 (fun H locs hI => ?_)
  refine lv_aload_n hx hb dX0_become_90 rfl (lv_at hl 1 rfl) ?_
  refine gR X hI fdX0_30 hx1 rf0_6 dX0_become_91 ?_
  refine lv_iconst (v := (0 : Int32)) hx hb dX0_become_94 (by decide) ?_
  refine lv_aload_n hx hb dX0_become_95 rfl (lv_at hl 0 rfl) ?_
  refine gR X hI fdX0_30 hx0 rf0_6 dX0_become_96 ?_
  refine lv_iconst (v := (0 : Int32)) hx hb dX0_become_99 (by decide) ?_
  refine lv_bipush (v := (6 : Int32)) hx hb dX0_become_100 (by decide) ?_
  obtain ⟨g7, hm⟩ := g_no hm
  refine kCopy X hI mpX0_75 hl.1 (Nat.le_of_ble_eq_true rfl) (Nat.le_of_ble_eq_true (by decide +kernel)) (lf0_6 hn hx1) (lf0_6 hn hx0) dX0_become_102 g7 (fun H locs hI => ?_)
  refine lv_aload_n hx hb dX0_become_105 rfl (lv_at hl 1 rfl) ?_
  refine gR X hI fdX0_33 hx1 rf0_7 dX0_become_106 ?_
  refine lv_iconst (v := (0 : Int32)) hx hb dX0_become_109 (by decide) ?_
  refine lv_aload_n hx hb dX0_become_110 rfl (lv_at hl 0 rfl) ?_
  refine gR X hI fdX0_33 hx0 rf0_7 dX0_become_111 ?_
  refine lv_iconst (v := (0 : Int32)) hx hb dX0_become_114 (by decide) ?_
  refine lv_bipush (v := (6 : Int32)) hx hb dX0_become_115 (by decide) ?_
  obtain ⟨g8, hm⟩ := g_no hm
  refine kCopy X hI mpX0_75 hl.1 (Nat.le_of_ble_eq_true rfl) (Nat.le_of_ble_eq_true (by decide +kernel)) (lf0_7 hn hx1) (lf0_7 hn hx0) dX0_become_117 g8 (fun H locs hI => ?_)
  refine lv_aload_n hx hb dX0_become_120 rfl (lv_at hl 1 rfl) ?_
  refine gR X hI fdX0_36 hx1 rf0_8 dX0_become_121 ?_
  refine lv_iconst (v := (0 : Int32)) hx hb dX0_become_124 (by decide) ?_
  refine lv_aload_n hx hb dX0_become_125 rfl (lv_at hl 0 rfl) ?_
  refine gR X hI fdX0_36 hx0 rf0_8 dX0_become_126 ?_
  refine lv_iconst (v := (0 : Int32)) hx hb dX0_become_129 (by decide) ?_
  refine lv_bipush (v := (6 : Int32)) hx hb dX0_become_130 (by decide) ?_
  obtain ⟨g9, hm⟩ := g_no hm
  refine kCopy X hI mpX0_75 hl.1 (Nat.le_of_ble_eq_true rfl) (Nat.le_of_ble_eq_true (by decide +kernel)) (lf0_8 hn hx1) (lf0_8 hn hx0) dX0_become_132 g9 (fun H locs hI => ?_)
  refine lv_aload_n hx hb dX0_become_135 rfl (lv_at hl 0 rfl) ?_
  refine lv_aload_n hx hb dX0_become_136 rfl (lv_at hl 1 rfl) ?_
  refine gI X hI fdX0_61 hx1 dX0_become_137 ?_
  refine pI X hI fpX0_61 hx0 dX0_become_140 (fun H locs hI => ?_)
  refine lv_aload_n hx hb dX0_become_143 rfl (lv_at hl 0 rfl) ?_
  refine lv_aload_n hx hb dX0_become_144 rfl (lv_at hl 1 rfl) ?_
  refine gI X hI fdX0_65 hx1 dX0_become_145 ?_
  refine pI X hI fpX0_65 hx0 dX0_become_148 (fun H locs hI => ?_)
  refine lv_aload_n hx hb dX0_become_151 rfl (lv_at hl 0 rfl) ?_
  refine lv_aload_n hx hb dX0_become_152 rfl (lv_at hl 1 rfl) ?_
  refine gL X hI fdX0_71 hx1 dX0_become_153 ?_
  refine pL X hI fpX0_71 hx0 dX0_become_156 (fun H locs hI => ?_)
  exact rV X hI hr (g_1 hm) dX0_become_159
abbrev rmX0_isTub : Room := { frames := 0, cells := 0, slots := 0, locals := 0 }
def fX0_isTub  (x0 : Int32) (m : Mem) : Option Int32 := if x0 < 0 then (some (0 : Int32)) else (if (6 : Int32) ≤ x0 then (some (0 : Int32)) else (some (1 : Int32)))
set_option maxHeartbeats 4000000 in
set_option maxRecDepth 100000 in
theorem ctX0_isTub {l : Launch} {D : va_G} {ca : Nat → ClassId} {ad : Nat → Nat}  (x0 : Int32)  (hn : HNc ca) (m : Mem) (fin : Int32) (hm : fX0_isTub x0 m = some fin) : CI l D ca ad yX0_isTub cwX0_isTub rmX0_isTub [.int x0] m fin m := by
  refine start (by decide) (Nat.le_of_ble_eq_true rfl) ?_
  intro p e s mm args below meth c H locs ls X hI hr hl
  have X : CX p s mm args meth c cX0_isTub 1 RX0 D ca ad (WA ca ad s.heap.size) := X
  have hx := X.1
  have hb := X.2.1
  have hl : lv_has ls 1 [(0, .int x0)] := hl
  have hm : (if x0 < 0 then (some (0 : Int32)) else (if (6 : Int32) ≤ x0 then (some (0 : Int32)) else (some (1 : Int32)))) = some fin := hm
  have hpm : m = m := rfl
  refine lv_iload_n hx hb dX0_isTub_0 rfl (lv_at hl 0 rfl) ?_
  refine lv_if_lt (tgt := 14) hx hb dX0_isTub_1 (by decide) (fun c1 => ?_) (fun c1 => ?_)
  · have hm := g_t c1 hm
    refine lv_iconst (v := (0 : Int32)) hx hb dX0_isTub_14 (by decide) ?_
    exact rZ X hI hr (by decide) (g_1 hm) hpm dX0_isTub_15
  · have hm := g_f c1 hm
    refine lv_iload_n hx hb dX0_isTub_4 rfl (lv_at hl 0 rfl) ?_
    refine lv_bipush (v := (6 : Int32)) hx hb dX0_isTub_5 (by decide) ?_
    refine lv_icmp_ge (tgt := 14) hx hb dX0_isTub_7 (by decide) (fun c2 => ?_) (fun c2 => ?_)
    · have hm := g_t c2 hm
      refine lv_iconst (v := (0 : Int32)) hx hb dX0_isTub_14 (by decide) ?_
      exact rZ X hI hr (by decide) (g_1 hm) hpm dX0_isTub_15
    · have hm := g_f c2 hm
      refine lv_iconst (v := (1 : Int32)) hx hb dX0_isTub_10 (by decide) ?_
      refine lv_goto (tgt := 15) hx hb dX0_isTub_11 (by decide) ?_
      exact rZ X hI hr (by decide) (g_1 hm) hpm dX0_isTub_15
abbrev rmX0_hasRoom : Room := { frames := 1, cells := 0, slots := 0, locals := 20 }
def fX0_hasRoom  (x0 : Nat) (x1 : Int32) (x2 : Int32) (m : Mem) : Option Int32 := (fX0_isTub x1 m).bind (fun q1 => if q1 = 0 then (some (0 : Int32)) else (if x1 < 0 ∨ 6 ≤ x1.toNatClampNeg then none else (if (999 : Int32) < ((m.1 (x0 + 1) x1.toNatClampNeg) + x2) then (some (0 : Int32)) else (some (1 : Int32)))))
set_option maxHeartbeats 4000000 in
set_option maxRecDepth 100000 in
theorem ctX0_hasRoom {l : Launch} {D : va_G} {ca : Nat → ClassId} {ad : Nat → Nat}  (x0 : Nat) (x1 : Int32) (x2 : Int32) (hx0 : ly ca x0 = (0, 0)) (hn : HNc ca) (m : Mem) (fin : Int32) (hm : fX0_hasRoom x0 x1 x2 m = some fin) : CI l D ca ad yX0_hasRoom cwX0_hasRoom rmX0_hasRoom [.ref (ad x0), .int x1, .int x2] m fin m := by
  refine start (by decide) (Nat.le_of_ble_eq_true rfl) ?_
  intro p e s mm args below meth c H locs ls X hI hr hl
  have X : CX p s mm args meth c cX0_hasRoom 3 RX0 D ca ad (WA ca ad s.heap.size) := X
  have hx := X.1
  have hb := X.2.1
  have hl : lv_has ls 3 [(0, .ref (ad x0)), (1, .int x1), (2, .int x2)] := hl
  have hm : ((fX0_isTub x1 m).bind (fun q1 => if q1 = 0 then (some (0 : Int32)) else (if x1 < 0 ∨ 6 ≤ x1.toNatClampNeg then none else (if (999 : Int32) < ((m.1 (x0 + 1) x1.toNatClampNeg) + x2) then (some (0 : Int32)) else (some (1 : Int32)))))) = some fin := hm
  have hpm : m = m := rfl
  refine lv_iload_n hx hb dX0_hasRoom_0 rfl (lv_at hl 1 rfl) ?_
  obtain ⟨q1, h2, hm⟩ := g_b hm
  refine backI X hI (runS X hI (ctX0_isTub x1  hn _ _ h2 _) msX0_81 ⟨rfl, rfl⟩ ⟨Nat.le_of_ble_eq_true rfl, Nat.le_of_ble_eq_true rfl⟩ rfl hl.1 rfl (Nat.le_of_ble_eq_true rfl) dX0_hasRoom_1) (fun H locs hI => ?_)
  refine lv_if_eq (tgt := 25) hx hb dX0_hasRoom_4 (by decide) (fun c3 => ?_) (fun c3 => ?_)
  · have hm := g_t c3 hm
    refine lv_iconst (v := (0 : Int32)) hx hb dX0_hasRoom_25 (by decide) ?_
    exact rZ X hI hr (by decide) (g_1 hm) hpm dX0_hasRoom_26
  · have hm := g_f c3 hm
    refine lv_aload_n hx hb dX0_hasRoom_7 rfl (lv_at hl 0 rfl) ?_
    refine gR X hI fdX0_9 hx0 rf0_0 dX0_hasRoom_8 ?_
    refine lv_iload_n hx hb dX0_hasRoom_11 rfl (lv_at hl 1 rfl) ?_
    obtain ⟨g4, hm⟩ := g_no hm
    refine aI X hI (lf0_0 hn hx0) g4 dX0_hasRoom_12 ?_
    refine lv_iload_n hx hb dX0_hasRoom_13 rfl (lv_at hl 2 rfl) ?_
    refine lv_iadd hx hb dX0_hasRoom_14 ?_
    refine lv_sipush (v := (999 : Int32)) hx hb dX0_hasRoom_15 (by decide) ?_
    refine lv_icmp_gt (tgt := 25) hx hb dX0_hasRoom_18 (by decide) (fun c5 => ?_) (fun c5 => ?_)
    · have hm := g_t c5 hm
      refine lv_iconst (v := (0 : Int32)) hx hb dX0_hasRoom_25 (by decide) ?_
      exact rZ X hI hr (by decide) (g_1 hm) hpm dX0_hasRoom_26
    · have hm := g_f c5 hm
      refine lv_iconst (v := (1 : Int32)) hx hb dX0_hasRoom_21 (by decide) ?_
      refine lv_goto (tgt := 26) hx hb dX0_hasRoom_22 (by decide) ?_
      exact rZ X hI hr (by decide) (g_1 hm) hpm dX0_hasRoom_26
abbrev rmX0_isKnight : Room := { frames := 0, cells := 0, slots := 0, locals := 0 }
def fX0_isKnight  (x0 : Int32) (m : Mem) : Option Int32 := if x0 < 0 then (some (0 : Int32)) else (if (6 : Int32) ≤ x0 then (some (0 : Int32)) else (some (1 : Int32)))
set_option maxHeartbeats 4000000 in
set_option maxRecDepth 100000 in
theorem ctX0_isKnight {l : Launch} {D : va_G} {ca : Nat → ClassId} {ad : Nat → Nat}  (x0 : Int32)  (hn : HNc ca) (m : Mem) (fin : Int32) (hm : fX0_isKnight x0 m = some fin) : CI l D ca ad yX0_isKnight cwX0_isKnight rmX0_isKnight [.int x0] m fin m := by
  refine start (by decide) (Nat.le_of_ble_eq_true rfl) ?_
  intro p e s mm args below meth c H locs ls X hI hr hl
  have X : CX p s mm args meth c cX0_isKnight 1 RX0 D ca ad (WA ca ad s.heap.size) := X
  have hx := X.1
  have hb := X.2.1
  have hl : lv_has ls 1 [(0, .int x0)] := hl
  have hm : (if x0 < 0 then (some (0 : Int32)) else (if (6 : Int32) ≤ x0 then (some (0 : Int32)) else (some (1 : Int32)))) = some fin := hm
  have hpm : m = m := rfl
  refine lv_iload_n hx hb dX0_isKnight_0 rfl (lv_at hl 0 rfl) ?_
  refine lv_if_lt (tgt := 14) hx hb dX0_isKnight_1 (by decide) (fun c1 => ?_) (fun c1 => ?_)
  · have hm := g_t c1 hm
    refine lv_iconst (v := (0 : Int32)) hx hb dX0_isKnight_14 (by decide) ?_
    exact rZ X hI hr (by decide) (g_1 hm) hpm dX0_isKnight_15
  · have hm := g_f c1 hm
    refine lv_iload_n hx hb dX0_isKnight_4 rfl (lv_at hl 0 rfl) ?_
    refine lv_bipush (v := (6 : Int32)) hx hb dX0_isKnight_5 (by decide) ?_
    refine lv_icmp_ge (tgt := 14) hx hb dX0_isKnight_7 (by decide) (fun c2 => ?_) (fun c2 => ?_)
    · have hm := g_t c2 hm
      refine lv_iconst (v := (0 : Int32)) hx hb dX0_isKnight_14 (by decide) ?_
      exact rZ X hI hr (by decide) (g_1 hm) hpm dX0_isKnight_15
    · have hm := g_f c2 hm
      refine lv_iconst (v := (1 : Int32)) hx hb dX0_isKnight_10 (by decide) ?_
      refine lv_goto (tgt := 15) hx hb dX0_isKnight_11 (by decide) ?_
      exact rZ X hI hr (by decide) (g_1 hm) hpm dX0_isKnight_15
abbrev rmX0_mixedHeat : Room := { frames := 1, cells := 0, slots := 0, locals := 20 }
def fX0_mixedHeat  (x0 : Nat) (x1 : Int32) (x2 : Int32) (x3 : Int32) (m : Mem) : Option Int32 := (fX0_isTub x1 m).bind (fun q1 => if q1 = 0 then (some (0 : Int32)) else (if x1 < 0 ∨ 6 ≤ x1.toNatClampNeg then none else (if 0 < ((m.1 (x0 + 1) x1.toNatClampNeg) + x2) then (if x1 < 0 ∨ 6 ≤ x1.toNatClampNeg then none else (if x1 < 0 ∨ 6 ≤ x1.toNatClampNeg then none else (if x1 < 0 ∨ 6 ≤ x1.toNatClampNeg then none else (if ((m.1 (x0 + 1) x1.toNatClampNeg) + x2) = 0 then none else (some ((((m.1 (x0 + 1) x1.toNatClampNeg) * (m.1 (x0 + 2) x1.toNatClampNeg)) + (x2 * x3)) / ((m.1 (x0 + 1) x1.toNatClampNeg) + x2))))))) else (some (0 : Int32)))))
set_option maxHeartbeats 4000000 in
set_option maxRecDepth 100000 in
theorem ctX0_mixedHeat {l : Launch} {D : va_G} {ca : Nat → ClassId} {ad : Nat → Nat}  (x0 : Nat) (x1 : Int32) (x2 : Int32) (x3 : Int32) (hx0 : ly ca x0 = (0, 0)) (hn : HNc ca) (m : Mem) (fin : Int32) (hm : fX0_mixedHeat x0 x1 x2 x3 m = some fin) : CI l D ca ad yX0_mixedHeat cwX0_mixedHeat rmX0_mixedHeat [.ref (ad x0), .int x1, .int x2, .int x3] m fin m := by
  refine start (by decide) (Nat.le_of_ble_eq_true rfl) ?_
  intro p e s mm args below meth c H locs ls X hI hr hl
  have X : CX p s mm args meth c cX0_mixedHeat 4 RX0 D ca ad (WA ca ad s.heap.size) := X
  have hx := X.1
  have hb := X.2.1
  have hl : lv_has ls 4 [(0, .ref (ad x0)), (1, .int x1), (2, .int x2), (3, .int x3)] := hl
  have hm : ((fX0_isTub x1 m).bind (fun q1 => if q1 = 0 then (some (0 : Int32)) else (if x1 < 0 ∨ 6 ≤ x1.toNatClampNeg then none else (if 0 < ((m.1 (x0 + 1) x1.toNatClampNeg) + x2) then (if x1 < 0 ∨ 6 ≤ x1.toNatClampNeg then none else (if x1 < 0 ∨ 6 ≤ x1.toNatClampNeg then none else (if x1 < 0 ∨ 6 ≤ x1.toNatClampNeg then none else (if ((m.1 (x0 + 1) x1.toNatClampNeg) + x2) = 0 then none else (some ((((m.1 (x0 + 1) x1.toNatClampNeg) * (m.1 (x0 + 2) x1.toNatClampNeg)) + (x2 * x3)) / ((m.1 (x0 + 1) x1.toNatClampNeg) + x2))))))) else (some (0 : Int32)))))) = some fin := hm
  have hpm : m = m := rfl
  refine lv_iload_n hx hb dX0_mixedHeat_0 rfl (lv_at hl 1 rfl) ?_
  obtain ⟨q1, h2, hm⟩ := g_b hm
  refine backI X hI (runS X hI (ctX0_isTub x1  hn _ _ h2 _) msX0_81 ⟨rfl, rfl⟩ ⟨Nat.le_of_ble_eq_true rfl, Nat.le_of_ble_eq_true rfl⟩ rfl hl.1 rfl (Nat.le_of_ble_eq_true rfl) dX0_mixedHeat_1) (fun H locs hI => ?_)
  refine lv_if_eq (tgt := 18) hx hb dX0_mixedHeat_4 (by decide) (fun c3 => ?_) (fun c3 => ?_)
  · have hm := g_t c3 hm
    refine lv_iconst (v := (0 : Int32)) hx hb dX0_mixedHeat_18 (by decide) ?_
    exact rI X hI hr (g_1 hm) hpm dX0_mixedHeat_19
  · have hm := g_f c3 hm
    refine lv_aload_n hx hb dX0_mixedHeat_7 rfl (lv_at hl 0 rfl) ?_
    refine gR X hI fdX0_9 hx0 rf0_0 dX0_mixedHeat_8 ?_
    refine lv_iload_n hx hb dX0_mixedHeat_11 rfl (lv_at hl 1 rfl) ?_
    obtain ⟨g4, hm⟩ := g_no hm
    refine aI X hI (lf0_0 hn hx0) g4 dX0_mixedHeat_12 ?_
    refine lv_iload_n hx hb dX0_mixedHeat_13 rfl (lv_at hl 2 rfl) ?_
    refine lv_iadd hx hb dX0_mixedHeat_14 ?_
    refine lv_if_gt (tgt := 20) hx hb dX0_mixedHeat_15 (by decide) (fun c5 => ?_) (fun c5 => ?_)
    · have hm := g_t c5 hm
      refine lv_aload_n hx hb dX0_mixedHeat_20 rfl (lv_at hl 0 rfl) ?_
      refine gR X hI fdX0_9 hx0 rf0_0 dX0_mixedHeat_21 ?_
      refine lv_iload_n hx hb dX0_mixedHeat_24 rfl (lv_at hl 1 rfl) ?_
      obtain ⟨g6, hm⟩ := g_no hm
      refine aI X hI (lf0_0 hn hx0) g6 dX0_mixedHeat_25 ?_
      refine lv_aload_n hx hb dX0_mixedHeat_26 rfl (lv_at hl 0 rfl) ?_
      refine gR X hI fdX0_15 hx0 rf0_1 dX0_mixedHeat_27 ?_
      refine lv_iload_n hx hb dX0_mixedHeat_30 rfl (lv_at hl 1 rfl) ?_
      obtain ⟨g7, hm⟩ := g_no hm
      refine aI X hI (lf0_1 hn hx0) g7 dX0_mixedHeat_31 ?_
      refine lv_imul hx hb dX0_mixedHeat_32 ?_
      refine lv_iload_n hx hb dX0_mixedHeat_33 rfl (lv_at hl 2 rfl) ?_
      refine lv_iload_n hx hb dX0_mixedHeat_34 rfl (lv_at hl 3 rfl) ?_
      refine lv_imul hx hb dX0_mixedHeat_35 ?_
      refine lv_iadd hx hb dX0_mixedHeat_36 ?_
      refine lv_aload_n hx hb dX0_mixedHeat_37 rfl (lv_at hl 0 rfl) ?_
      refine gR X hI fdX0_9 hx0 rf0_0 dX0_mixedHeat_38 ?_
      refine lv_iload_n hx hb dX0_mixedHeat_41 rfl (lv_at hl 1 rfl) ?_
      obtain ⟨g8, hm⟩ := g_no hm
      refine aI X hI (lf0_0 hn hx0) g8 dX0_mixedHeat_42 ?_
      refine lv_iload_n hx hb dX0_mixedHeat_43 rfl (lv_at hl 2 rfl) ?_
      refine lv_iadd hx hb dX0_mixedHeat_44 ?_
      obtain ⟨g9, hm⟩ := g_no hm
      refine lv_idiv hx hb dX0_mixedHeat_45 g9 ?_
      exact rI X hI hr (g_1 hm) hpm dX0_mixedHeat_46
    · have hm := g_f c5 hm
      refine lv_iconst (v := (0 : Int32)) hx hb dX0_mixedHeat_18 (by decide) ?_
      exact rI X hI hr (g_1 hm) hpm dX0_mixedHeat_19
abbrev rmX0_pourIn : Room := { frames := 2, cells := 0, slots := 0, locals := 43 }
def fX0_pourIn  (x0 : Nat) (x1 : Int32) (x2 : Int32) (x3 : Int32) (m : Mem) : Option Mem := (fX0_isTub x1 m).bind (fun q1 => if q1 = 0 then (some m) else ((fX0_mixedHeat x0 x1 x2 x3 m).bind (fun q4 => if x1 < 0 ∨ 6 ≤ x1.toNatClampNeg then none else (if x1 < 0 ∨ 6 ≤ x1.toNatClampNeg then none else (if x1 < 0 ∨ 6 ≤ x1.toNatClampNeg then none else (some (mI (mI m (x0 + 2) x1.toNatClampNeg q4) (x0 + 1) x1.toNatClampNeg (((mI m (x0 + 2) x1.toNatClampNeg q4).1 (x0 + 1) x1.toNatClampNeg) + x2))))))))
set_option maxHeartbeats 4000000 in
set_option maxRecDepth 100000 in
theorem ctX0_pourIn {l : Launch} {D : va_G} {ca : Nat → ClassId} {ad : Nat → Nat}  (x0 : Nat) (x1 : Int32) (x2 : Int32) (x3 : Int32) (hx0 : ly ca x0 = (0, 0)) (hn : HNc ca) (m : Mem) (fin : Mem) (hm : fX0_pourIn x0 x1 x2 x3 m = some fin) : CV l D ca ad yX0_pourIn cwX0_pourIn rmX0_pourIn [.ref (ad x0), .int x1, .int x2, .int x3] m fin := by
  refine start (by decide) (Nat.le_of_ble_eq_true rfl) ?_
  intro p e s mm args below meth c H locs ls X hI hr hl
  have X : CX p s mm args meth c cX0_pourIn 4 RX0 D ca ad (WA ca ad s.heap.size) := X
  have hx := X.1
  have hb := X.2.1
  have hl : lv_has ls 4 [(0, .ref (ad x0)), (1, .int x1), (2, .int x2), (3, .int x3)] := hl
  have hm : ((fX0_isTub x1 m).bind (fun q1 => if q1 = 0 then (some m) else ((fX0_mixedHeat x0 x1 x2 x3 m).bind (fun q4 => if x1 < 0 ∨ 6 ≤ x1.toNatClampNeg then none else (if x1 < 0 ∨ 6 ≤ x1.toNatClampNeg then none else (if x1 < 0 ∨ 6 ≤ x1.toNatClampNeg then none else (some (mI (mI m (x0 + 2) x1.toNatClampNeg q4) (x0 + 1) x1.toNatClampNeg (((mI m (x0 + 2) x1.toNatClampNeg q4).1 (x0 + 1) x1.toNatClampNeg) + x2))))))))) = some fin := hm
  refine lv_iload_n hx hb dX0_pourIn_0 rfl (lv_at hl 1 rfl) ?_
  obtain ⟨q1, h2, hm⟩ := g_b hm
  refine backI X hI (runS X hI (ctX0_isTub x1  hn _ _ h2 _) msX0_81 ⟨rfl, rfl⟩ ⟨Nat.le_of_ble_eq_true rfl, Nat.le_of_ble_eq_true rfl⟩ rfl hl.1 rfl (Nat.le_of_ble_eq_true rfl) dX0_pourIn_1) (fun H locs hI => ?_)
  refine lv_if_eq (tgt := 30) hx hb dX0_pourIn_4 (by decide) (fun c3 => ?_) (fun c3 => ?_)
  · have hm := g_t c3 hm
    exact rV X hI hr (g_1 hm) dX0_pourIn_30
  · have hm := g_f c3 hm
    refine lv_aload_n hx hb dX0_pourIn_7 rfl (lv_at hl 0 rfl) ?_
    refine gR X hI fdX0_15 hx0 rf0_1 dX0_pourIn_8 ?_
    refine lv_iload_n hx hb dX0_pourIn_11 rfl (lv_at hl 1 rfl) ?_
    refine lv_aload_n hx hb dX0_pourIn_12 rfl (lv_at hl 0 rfl) ?_
    refine lv_iload_n hx hb dX0_pourIn_13 rfl (lv_at hl 1 rfl) ?_
    refine lv_iload_n hx hb dX0_pourIn_14 rfl (lv_at hl 2 rfl) ?_
    refine lv_iload_n hx hb dX0_pourIn_15 rfl (lv_at hl 3 rfl) ?_
    obtain ⟨q4, h5, hm⟩ := g_b hm
    refine backI X hI (runV X hI (ctX0_mixedHeat x0 x1 x2 x3 hx0 hn _ _ h5 _) mdX0_84 hx0 rfl ⟨rfl, rfl⟩ ⟨Nat.le_of_ble_eq_true rfl, Nat.le_of_ble_eq_true rfl⟩ rfl hl.1 rfl (Nat.le_of_ble_eq_true rfl) dX0_pourIn_16) (fun H locs hI => ?_)
    obtain ⟨g6, hm⟩ := g_no hm
    refine sI X hI (lf0_1 hn hx0) g6 dX0_pourIn_19 (fun H locs hI => ?_)
    refine lv_aload_n hx hb dX0_pourIn_20 rfl (lv_at hl 0 rfl) ?_
    refine gR X hI fdX0_9 hx0 rf0_0 dX0_pourIn_21 ?_
    refine lv_iload_n hx hb dX0_pourIn_24 rfl (lv_at hl 1 rfl) ?_
    refine lv_dup2_11 hx hb dX0_pourIn_25 rfl rfl ?_
    obtain ⟨g7, hm⟩ := g_no hm
    refine aI X hI (lf0_0 hn hx0) g7 dX0_pourIn_26 ?_
    refine lv_iload_n hx hb dX0_pourIn_27 rfl (lv_at hl 2 rfl) ?_
    refine lv_iadd hx hb dX0_pourIn_28 ?_
    obtain ⟨g8, hm⟩ := g_no hm
    refine sI X hI (lf0_0 hn hx0) g8 dX0_pourIn_29 (fun H locs hI => ?_)
    exact rV X hI hr (g_1 hm) dX0_pourIn_30
abbrev rmX0_leave : Room := { frames := 1, cells := 0, slots := 0, locals := 20 }
def fX0_leave_30  (x0 : Nat) (x1 : Int32) (m : Mem) : Option Mem := if x1 < 0 ∨ 6 ≤ x1.toNatClampNeg then none else (if x1 < 0 ∨ 6 ≤ x1.toNatClampNeg then none else (some (mI (mI m (x0 + 5) x1.toNatClampNeg (-2 : Int32)) (x0 + 8) x1.toNatClampNeg (0 : Int32))))
set_option maxHeartbeats 4000000 in
set_option maxRecDepth 100000 in
theorem tX0_leave_30  {l : Launch} {D : va_G} {ca : Nat → ClassId} {ad : Nat → Nat} {p : Program} {e : Env} {s : State} {mm : MethodId} {args : Array Value} {below : List Frame} {meth : Method} {c : Code}  (hn : HNc ca) (X : CX p s mm args meth c cX0_leave 3 RX0 D ca ad (WA ca ad s.heap.size)) (hr : meth.sig.returnType = none) (fin : Mem)  : ∀ (x0 : Nat) (x1 : Int32) (m : Mem) (H : Heap) (locs : List Loc) (ls : Array Slot), ly ca x0 = (0, 0) → IW D ca ad (WA ca ad s.heap.size) s m H locs → lv_has ls 3 [(0, .ref (ad x0)), (1, .int x1)] → fX0_leave_30  x0 x1 m = some fin → W p l e rmX0_leave s mm args below meth c H locs 0 0 (MQ below (QV D ca ad s.heap.size fin) args s 0 0 (WA ca ad s.heap.size)) (F0 mm 30 ls []) := by
  have hx := X.1
  have hb := X.2.1
  intro x0 x1 m H locs ls hx0 hI hl hm
  have hm : (if x1 < 0 ∨ 6 ≤ x1.toNatClampNeg then none else (if x1 < 0 ∨ 6 ≤ x1.toNatClampNeg then none else (some (mI (mI m (x0 + 5) x1.toNatClampNeg (-2 : Int32)) (x0 + 8) x1.toNatClampNeg (0 : Int32))))) = some fin := hm
  refine lv_aload_n hx hb dX0_leave_30 rfl (lv_at hl 0 rfl) ?_
  refine gR X hI fdX0_24 hx0 rf0_4 dX0_leave_31 ?_
  refine lv_iload_n hx hb dX0_leave_34 rfl (lv_at hl 1 rfl) ?_
  refine lv_bipush (v := (-2 : Int32)) hx hb dX0_leave_35 (by decide) ?_
  obtain ⟨g8, hm⟩ := g_no hm
  refine sI X hI (lf0_4 hn hx0) g8 dX0_leave_37 (fun H locs hI => ?_)
  refine lv_aload_n hx hb dX0_leave_38 rfl (lv_at hl 0 rfl) ?_
  refine gR X hI fdX0_33 hx0 rf0_7 dX0_leave_39 ?_
  refine lv_iload_n hx hb dX0_leave_42 rfl (lv_at hl 1 rfl) ?_
  refine lv_iconst (v := (0 : Int32)) hx hb dX0_leave_43 (by decide) ?_
  obtain ⟨g9, hm⟩ := g_no hm
  refine sI X hI (lf0_7 hn hx0) g9 dX0_leave_44 (fun H locs hI => ?_)
  exact rV X hI hr (g_1 hm) dX0_leave_45
def fX0_leave  (x0 : Nat) (x1 : Int32) (m : Mem) : Option Mem := (fX0_isKnight x1 m).bind (fun q1 => if q1 = 0 then (some m) else (if x1 < 0 ∨ 6 ≤ x1.toNatClampNeg then none else ((fX0_isTub (m.1 (x0 + 5) x1.toNatClampNeg) m).bind (fun q5 => if q5 = 0 then (fX0_leave_30 x0 x1 m) else (if (m.1 (x0 + 5) x1.toNatClampNeg) < 0 ∨ 6 ≤ (m.1 (x0 + 5) x1.toNatClampNeg).toNatClampNeg then none else (fX0_leave_30 x0 x1 (mI m (x0 + 3) (m.1 (x0 + 5) x1.toNatClampNeg).toNatClampNeg (-2 : Int32))))))))
set_option maxHeartbeats 4000000 in
set_option maxRecDepth 100000 in
theorem ctX0_leave {l : Launch} {D : va_G} {ca : Nat → ClassId} {ad : Nat → Nat}  (x0 : Nat) (x1 : Int32) (hx0 : ly ca x0 = (0, 0)) (hn : HNc ca) (m : Mem) (fin : Mem) (hm : fX0_leave x0 x1 m = some fin) : CV l D ca ad yX0_leave cwX0_leave rmX0_leave [.ref (ad x0), .int x1] m fin := by
  refine start (by decide) (Nat.le_of_ble_eq_true rfl) ?_
  intro p e s mm args below meth c H locs ls X hI hr hl
  have X : CX p s mm args meth c cX0_leave 3 RX0 D ca ad (WA ca ad s.heap.size) := X
  have hx := X.1
  have hb := X.2.1
  have hl : lv_has ls 3 [(0, .ref (ad x0)), (1, .int x1)] := hl
  have hm : ((fX0_isKnight x1 m).bind (fun q1 => if q1 = 0 then (some m) else (if x1 < 0 ∨ 6 ≤ x1.toNatClampNeg then none else ((fX0_isTub (m.1 (x0 + 5) x1.toNatClampNeg) m).bind (fun q5 => if q5 = 0 then (fX0_leave_30 x0 x1 m) else (if (m.1 (x0 + 5) x1.toNatClampNeg) < 0 ∨ 6 ≤ (m.1 (x0 + 5) x1.toNatClampNeg).toNatClampNeg then none else (fX0_leave_30 x0 x1 (mI m (x0 + 3) (m.1 (x0 + 5) x1.toNatClampNeg).toNatClampNeg (-2 : Int32))))))))) = some fin := hm
  refine lv_iload_n hx hb dX0_leave_0 rfl (lv_at hl 1 rfl) ?_
  obtain ⟨q1, h2, hm⟩ := g_b hm
  refine backI X hI (runS X hI (ctX0_isKnight x1  hn _ _ h2 _) msX0_88 ⟨rfl, rfl⟩ ⟨Nat.le_of_ble_eq_true rfl, Nat.le_of_ble_eq_true rfl⟩ rfl hl.1 rfl (Nat.le_of_ble_eq_true rfl) dX0_leave_1) (fun H locs hI => ?_)
  refine lv_if_ne (tgt := 8) hx hb dX0_leave_4 (by decide) (fun c3 => ?_) (fun c3 => ?_)
  · have hm := g_f c3 hm
    refine lv_aload_n hx hb dX0_leave_8 rfl (lv_at hl 0 rfl) ?_
    refine gR X hI fdX0_24 hx0 rf0_4 dX0_leave_9 ?_
    refine lv_iload_n hx hb dX0_leave_12 rfl (lv_at hl 1 rfl) ?_
    obtain ⟨g4, hm⟩ := g_no hm
    refine aI X hI (lf0_4 hn hx0) g4 dX0_leave_13 ?_
    refine lv_istore_n (lv' := [(2, .int (m.1 (x0 + 5) x1.toNatClampNeg)), (0, .ref (ad x0)), (1, .int x1)]) hx hb dX0_leave_14 rfl hl (by decide) rfl (fun ls hl => ?_)
    refine lv_iload_n hx hb dX0_leave_15 rfl (lv_at hl 0 rfl) ?_
    obtain ⟨q5, h6, hm⟩ := g_b hm
    refine backI X hI (runS X hI (ctX0_isTub (m.1 (x0 + 5) x1.toNatClampNeg)  hn _ _ h6 _) msX0_81 ⟨rfl, rfl⟩ ⟨Nat.le_of_ble_eq_true rfl, Nat.le_of_ble_eq_true rfl⟩ rfl hl.1 rfl (Nat.le_of_ble_eq_true rfl) dX0_leave_16) (fun H locs hI => ?_)
    refine lv_if_eq (tgt := 30) hx hb dX0_leave_19 (by decide) (fun c7 => ?_) (fun c7 => ?_)
    · have hm := g_t c7 hm
      exact tX0_leave_30  hn X hr fin  x0 x1 m H locs ls hx0 hI (lv_sub hl [1, 2] rfl) hm
    · have hm := g_f c7 hm
      refine lv_aload_n hx hb dX0_leave_22 rfl (lv_at hl 1 rfl) ?_
      refine gR X hI fdX0_18 hx0 rf0_2 dX0_leave_23 ?_
      refine lv_iload_n hx hb dX0_leave_26 rfl (lv_at hl 0 rfl) ?_
      refine lv_bipush (v := (-2 : Int32)) hx hb dX0_leave_27 (by decide) ?_
      obtain ⟨g10, hm⟩ := g_no hm
      refine sI X hI (lf0_2 hn hx0) g10 dX0_leave_29 (fun H locs hI => ?_)
      exact tX0_leave_30  hn X hr fin  x0 x1 (mI m (x0 + 3) (m.1 (x0 + 5) x1.toNatClampNeg).toNatClampNeg (-2 : Int32)) H locs ls hx0 hI (lv_sub hl [1, 2] rfl) hm
  · have hm := g_t c3 hm
    exact rV X hI hr (g_1 hm) dX0_leave_7
abbrev rmX0_enter : Room := { frames := 2, cells := 0, slots := 0, locals := 42 }
def fX0_enter  (x0 : Nat) (x1 : Int32) (x2 : Int32) (m : Mem) : Option (Int32 × Mem) := (fX0_isKnight x1 m).bind (fun q1 => if q1 = 0 then (some ((0 : Int32), m)) else ((fX0_isTub x2 m).bind (fun q4 => if q4 = 0 then (some ((0 : Int32), m)) else (if x2 < 0 ∨ 6 ≤ x2.toNatClampNeg then none else (if (m.1 (x0 + 3) x2.toNatClampNeg) < 0 then ((fX0_leave x0 x1 m).bind (fun q9 => if x2 < 0 ∨ 6 ≤ x2.toNatClampNeg then none else (if x1 < 0 ∨ 6 ≤ x1.toNatClampNeg then none else (some ((1 : Int32), (mI (mI q9 (x0 + 3) x2.toNatClampNeg x1) (x0 + 5) x1.toNatClampNeg x2)))))) else (some ((0 : Int32), m)))))))
set_option maxHeartbeats 4000000 in
set_option maxRecDepth 100000 in
theorem ctX0_enter {l : Launch} {D : va_G} {ca : Nat → ClassId} {ad : Nat → Nat}  (x0 : Nat) (x1 : Int32) (x2 : Int32) (hx0 : ly ca x0 = (0, 0)) (hn : HNc ca) (m : Mem) (fin : (Int32 × Mem)) (hm : fX0_enter x0 x1 x2 m = some fin) : CI l D ca ad yX0_enter cwX0_enter rmX0_enter [.ref (ad x0), .int x1, .int x2] m fin.1 fin.2 := by
  refine start (by decide) (Nat.le_of_ble_eq_true rfl) ?_
  intro p e s mm args below meth c H locs ls X hI hr hl
  have X : CX p s mm args meth c cX0_enter 3 RX0 D ca ad (WA ca ad s.heap.size) := X
  have hx := X.1
  have hb := X.2.1
  have hl : lv_has ls 3 [(0, .ref (ad x0)), (1, .int x1), (2, .int x2)] := hl
  have hm : ((fX0_isKnight x1 m).bind (fun q1 => if q1 = 0 then (some ((0 : Int32), m)) else ((fX0_isTub x2 m).bind (fun q4 => if q4 = 0 then (some ((0 : Int32), m)) else (if x2 < 0 ∨ 6 ≤ x2.toNatClampNeg then none else (if (m.1 (x0 + 3) x2.toNatClampNeg) < 0 then ((fX0_leave x0 x1 m).bind (fun q9 => if x2 < 0 ∨ 6 ≤ x2.toNatClampNeg then none else (if x1 < 0 ∨ 6 ≤ x1.toNatClampNeg then none else (some ((1 : Int32), (mI (mI q9 (x0 + 3) x2.toNatClampNeg x1) (x0 + 5) x1.toNatClampNeg x2)))))) else (some ((0 : Int32), m)))))))) = some fin := hm
  refine lv_iload_n hx hb dX0_enter_0 rfl (lv_at hl 1 rfl) ?_
  obtain ⟨q1, h2, hm⟩ := g_b hm
  refine backI X hI (runS X hI (ctX0_isKnight x1  hn _ _ h2 _) msX0_88 ⟨rfl, rfl⟩ ⟨Nat.le_of_ble_eq_true rfl, Nat.le_of_ble_eq_true rfl⟩ rfl hl.1 rfl (Nat.le_of_ble_eq_true rfl) dX0_enter_1) (fun H locs hI => ?_)
  refine lv_if_eq (tgt := 23) hx hb dX0_enter_4 (by decide) (fun c3 => ?_) (fun c3 => ?_)
  · have hm := g_t c3 hm
    refine lv_iconst (v := (0 : Int32)) hx hb dX0_enter_23 (by decide) ?_
    exact rZ X hI hr (by decide) (g_p hm).1 (g_p hm).2 dX0_enter_24
  · have hm := g_f c3 hm
    refine lv_iload_n hx hb dX0_enter_7 rfl (lv_at hl 2 rfl) ?_
    obtain ⟨q4, h5, hm⟩ := g_b hm
    refine backI X hI (runS X hI (ctX0_isTub x2  hn _ _ h5 _) msX0_81 ⟨rfl, rfl⟩ ⟨Nat.le_of_ble_eq_true rfl, Nat.le_of_ble_eq_true rfl⟩ rfl hl.1 rfl (Nat.le_of_ble_eq_true rfl) dX0_enter_8) (fun H locs hI => ?_)
    refine lv_if_eq (tgt := 23) hx hb dX0_enter_11 (by decide) (fun c6 => ?_) (fun c6 => ?_)
    · have hm := g_t c6 hm
      refine lv_iconst (v := (0 : Int32)) hx hb dX0_enter_23 (by decide) ?_
      exact rZ X hI hr (by decide) (g_p hm).1 (g_p hm).2 dX0_enter_24
    · have hm := g_f c6 hm
      refine lv_aload_n hx hb dX0_enter_14 rfl (lv_at hl 0 rfl) ?_
      refine gR X hI fdX0_18 hx0 rf0_2 dX0_enter_15 ?_
      refine lv_iload_n hx hb dX0_enter_18 rfl (lv_at hl 2 rfl) ?_
      obtain ⟨g7, hm⟩ := g_no hm
      refine aI X hI (lf0_2 hn hx0) g7 dX0_enter_19 ?_
      refine lv_if_lt (tgt := 25) hx hb dX0_enter_20 (by decide) (fun c8 => ?_) (fun c8 => ?_)
      · have hm := g_t c8 hm
        refine lv_aload_n hx hb dX0_enter_25 rfl (lv_at hl 0 rfl) ?_
        refine lv_iload_n hx hb dX0_enter_26 rfl (lv_at hl 1 rfl) ?_
        obtain ⟨q9, h10, hm⟩ := g_b hm
        refine backV X hI (runV X hI (ctX0_leave x0 x1 hx0 hn _ _ h10 _) mdX0_91 hx0 rfl ⟨rfl, rfl⟩ ⟨Nat.le_of_ble_eq_true rfl, Nat.le_of_ble_eq_true rfl⟩ rfl hl.1 rfl (Nat.le_of_ble_eq_true rfl) dX0_enter_27) (fun H locs hI => ?_)
        refine lv_aload_n hx hb dX0_enter_30 rfl (lv_at hl 0 rfl) ?_
        refine gR X hI fdX0_18 hx0 rf0_2 dX0_enter_31 ?_
        refine lv_iload_n hx hb dX0_enter_34 rfl (lv_at hl 2 rfl) ?_
        refine lv_iload_n hx hb dX0_enter_35 rfl (lv_at hl 1 rfl) ?_
        obtain ⟨g11, hm⟩ := g_no hm
        refine sI X hI (lf0_2 hn hx0) g11 dX0_enter_36 (fun H locs hI => ?_)
        refine lv_aload_n hx hb dX0_enter_37 rfl (lv_at hl 0 rfl) ?_
        refine gR X hI fdX0_24 hx0 rf0_4 dX0_enter_38 ?_
        refine lv_iload_n hx hb dX0_enter_41 rfl (lv_at hl 1 rfl) ?_
        refine lv_iload_n hx hb dX0_enter_42 rfl (lv_at hl 2 rfl) ?_
        obtain ⟨g12, hm⟩ := g_no hm
        refine sI X hI (lf0_4 hn hx0) g12 dX0_enter_43 (fun H locs hI => ?_)
        refine lv_iconst (v := (1 : Int32)) hx hb dX0_enter_44 (by decide) ?_
        exact rZ X hI hr (by decide) (g_p hm).1 (g_p hm).2 dX0_enter_45
      · have hm := g_f c8 hm
        refine lv_iconst (v := (0 : Int32)) hx hb dX0_enter_23 (by decide) ?_
        exact rZ X hI hr (by decide) (g_p hm).1 (g_p hm).2 dX0_enter_24
abbrev rmX0_bathers : Room := { frames := 0, cells := 0, slots := 0, locals := 0 }
def fX0_bathers_4 (N : Nat) : Nat → Nat → Int32 → Int32 → Mem → Option Int32
  | 0, _, _, _, _ => none
  | n + 1, x0, x1, x2, m => if (6 : Int32) ≤ x2 then (some x1) else (if x2 < 0 ∨ 6 ≤ x2.toNatClampNeg then none else (if (m.1 (x0 + 5) x2.toNatClampNeg) < 0 then (fX0_bathers_4 N n x0 x1 (x2 + (1 : Int32)) m) else (fX0_bathers_4 N n x0 (x1 + (1 : Int32)) (x2 + (1 : Int32)) m)))
set_option maxHeartbeats 4000000 in
set_option maxRecDepth 100000 in
theorem tX0_bathers_4 (N : Nat) {l : Launch} {D : va_G} {ca : Nat → ClassId} {ad : Nat → Nat} {p : Program} {e : Env} {s : State} {mm : MethodId} {args : Array Value} {below : List Frame} {meth : Method} {c : Code}  (hn : HNc ca) (X : CX p s mm args meth c cX0_bathers 3 RX0 D ca ad (WA ca ad s.heap.size)) (hr : meth.sig.returnType = (some .int)) (fin : Int32) (m0 : Mem)  : ∀ (n : Nat) (x0 : Nat) (x1 : Int32) (x2 : Int32) (m : Mem) (H : Heap) (locs : List Loc) (ls : Array Slot), ly ca x0 = (0, 0) → IW D ca ad (WA ca ad s.heap.size) s m H locs → lv_has ls 3 [(0, .ref (ad x0)), (1, .int x1), (2, .int x2)] → fX0_bathers_4 N n x0 x1 x2 m = some fin → m = m0 → W p l e rmX0_bathers s mm args below meth c H locs 0 0 (MQ below (QI D ca ad s.heap.size fin m0) args s 0 0 (WA ca ad s.heap.size)) (F0 mm 4 ls []) := by
  have hx := X.1
  have hb := X.2.1
  intro n
  induction n with
  | zero => intro x0 x1 x2 m H locs ls hx0 hI hl hm hpm
            exact absurd hm (by intro q; cases q)
  | succ n ih =>
    intro x0 x1 x2 m H locs ls hx0 hI hl hm hpm
    have hm : (if (6 : Int32) ≤ x2 then (some x1) else (if x2 < 0 ∨ 6 ≤ x2.toNatClampNeg then none else (if (m.1 (x0 + 5) x2.toNatClampNeg) < 0 then (fX0_bathers_4 N n x0 x1 (x2 + (1 : Int32)) m) else (fX0_bathers_4 N n x0 (x1 + (1 : Int32)) (x2 + (1 : Int32)) m)))) = some fin := hm
    refine lv_iload_n hx hb dX0_bathers_4 rfl (lv_at hl 2 rfl) ?_
    refine lv_bipush (v := (6 : Int32)) hx hb dX0_bathers_5 (by decide) ?_
    refine lv_icmp_ge (tgt := 28) hx hb dX0_bathers_7 (by decide) (fun c1 => ?_) (fun c1 => ?_)
    · have hm := g_t c1 hm
      refine lv_iload_n hx hb dX0_bathers_28 rfl (lv_at hl 1 rfl) ?_
      exact rI X hI hr (g_1 hm) hpm dX0_bathers_29
    · have hm := g_f c1 hm
      refine lv_aload_n hx hb dX0_bathers_10 rfl (lv_at hl 0 rfl) ?_
      refine gR X hI fdX0_24 hx0 rf0_4 dX0_bathers_11 ?_
      refine lv_iload_n hx hb dX0_bathers_14 rfl (lv_at hl 2 rfl) ?_
      obtain ⟨g2, hm⟩ := g_no hm
      refine aI X hI (lf0_4 hn hx0) g2 dX0_bathers_15 ?_
      refine lv_if_lt (tgt := 22) hx hb dX0_bathers_16 (by decide) (fun c3 => ?_) (fun c3 => ?_)
      · have hm := g_t c3 hm
        refine lv_iinc (v := (x2 + (1 : Int32))) (lv' := [(2, .int (x2 + (1 : Int32))), (0, .ref (ad x0)), (1, .int x1)]) hx hb dX0_bathers_22 hl (k := 2) rfl rfl (by decide) rfl (fun ls hl => ?_)
        refine lv_goto (tgt := 4) hx hb dX0_bathers_25 (by decide) ?_
        exact ih x0 x1 (x2 + (1 : Int32)) m H locs ls hx0 hI (lv_sub hl [1, 2, 0] rfl) hm hpm
      · have hm := g_f c3 hm
        refine lv_iinc (v := (x1 + (1 : Int32))) (lv' := [(1, .int (x1 + (1 : Int32))), (0, .ref (ad x0)), (2, .int x2)]) hx hb dX0_bathers_19 hl (k := 1) rfl rfl (by decide) rfl (fun ls hl => ?_)
        refine lv_iinc (v := (x2 + (1 : Int32))) (lv' := [(2, .int (x2 + (1 : Int32))), (1, .int (x1 + (1 : Int32))), (0, .ref (ad x0))]) hx hb dX0_bathers_22 hl (k := 2) rfl rfl (by decide) rfl (fun ls hl => ?_)
        refine lv_goto (tgt := 4) hx hb dX0_bathers_25 (by decide) ?_
        exact ih x0 (x1 + (1 : Int32)) (x2 + (1 : Int32)) m H locs ls hx0 hI (lv_sub hl [2, 1, 0] rfl) hm hpm
def fX0_bathers (N : Nat) (x0 : Nat) (m : Mem) : Option Int32 := fX0_bathers_4 N N x0 (0 : Int32) (0 : Int32) m
set_option maxHeartbeats 4000000 in
set_option maxRecDepth 100000 in
theorem ctX0_bathers {l : Launch} {D : va_G} {ca : Nat → ClassId} {ad : Nat → Nat} (N : Nat) (x0 : Nat) (hx0 : ly ca x0 = (0, 0)) (hn : HNc ca) (m : Mem) (fin : Int32) (hm : fX0_bathers N x0 m = some fin) : CI l D ca ad yX0_bathers cwX0_bathers rmX0_bathers [.ref (ad x0)] m fin m := by
  refine start (by decide) (Nat.le_of_ble_eq_true rfl) ?_
  intro p e s mm args below meth c H locs ls X hI hr hl
  have X : CX p s mm args meth c cX0_bathers 3 RX0 D ca ad (WA ca ad s.heap.size) := X
  have hx := X.1
  have hb := X.2.1
  have hl : lv_has ls 3 [(0, .ref (ad x0))] := hl
  have hm : (fX0_bathers_4 N N x0 (0 : Int32) (0 : Int32) m) = some fin := hm
  have hpm : m = m := rfl
  refine lv_iconst (v := (0 : Int32)) hx hb dX0_bathers_0 (by decide) ?_
  refine lv_istore_n (lv' := [(1, .int (0 : Int32)), (0, .ref (ad x0))]) hx hb dX0_bathers_1 rfl hl (by decide) rfl (fun ls hl => ?_)
  refine lv_iconst (v := (0 : Int32)) hx hb dX0_bathers_2 (by decide) ?_
  refine lv_istore_n (lv' := [(2, .int (0 : Int32)), (1, .int (0 : Int32)), (0, .ref (ad x0))]) hx hb dX0_bathers_3 rfl hl (by decide) rfl (fun ls hl => ?_)
  exact tX0_bathers_4 N hn X hr fin m  N x0 (0 : Int32) (0 : Int32) m H locs ls hx0 hI (lv_sub hl [2, 1, 0] rfl) hm hpm
abbrev rmX0_draw : Room := { frames := 0, cells := 0, slots := 0, locals := 0 }
def fX0_draw  (x0 : Nat) (m : Mem) : Option (Int32 × Mem) := some ((((mJ m x0 11 ((((m.2.1 x0 11) * (1103515245 : Int64)) + (12345 : Int64)) &&& (2147483647 : Int64))).2.1 x0 11) / (65536 : Int64)).toInt32, (mJ m x0 11 ((((m.2.1 x0 11) * (1103515245 : Int64)) + (12345 : Int64)) &&& (2147483647 : Int64))))
set_option maxHeartbeats 4000000 in
set_option maxRecDepth 100000 in
theorem ctX0_draw {l : Launch} {D : va_G} {ca : Nat → ClassId} {ad : Nat → Nat}  (x0 : Nat) (hx0 : ly ca x0 = (0, 0)) (hn : HNc ca) (m : Mem) (fin : (Int32 × Mem)) (hm : fX0_draw x0 m = some fin) : CI l D ca ad yX0_draw cwX0_draw rmX0_draw [.ref (ad x0)] m fin.1 fin.2 := by
  refine start (by decide) (Nat.le_of_ble_eq_true rfl) ?_
  intro p e s mm args below meth c H locs ls X hI hr hl
  have X : CX p s mm args meth c cX0_draw 1 RX0 D ca ad (WA ca ad s.heap.size) := X
  have hx := X.1
  have hb := X.2.1
  have hl : lv_has ls 1 [(0, .ref (ad x0))] := hl
  have hm : (some ((((mJ m x0 11 ((((m.2.1 x0 11) * (1103515245 : Int64)) + (12345 : Int64)) &&& (2147483647 : Int64))).2.1 x0 11) / (65536 : Int64)).toInt32, (mJ m x0 11 ((((m.2.1 x0 11) * (1103515245 : Int64)) + (12345 : Int64)) &&& (2147483647 : Int64))))) = some fin := hm
  refine lv_aload_n hx hb dX0_draw_0 rfl (lv_at hl 0 rfl) ?_
  refine lv_aload_n hx hb dX0_draw_1 rfl (lv_at hl 0 rfl) ?_
  refine gL X hI fdX0_71 hx0 dX0_draw_2 ?_
  refine lv_ldc2 hx hb X.2.2.2.1 (X.2.2.2.2.1 _ kcX0_95) dX0_draw_5 ?_
  refine lv_lmul hx hb dX0_draw_8 ?_
  refine lv_ldc2 hx hb X.2.2.2.1 (X.2.2.2.2.1 _ kcX0_97) dX0_draw_9 ?_
  refine lv_ladd hx hb dX0_draw_12 ?_
  refine lv_ldc2 hx hb X.2.2.2.1 (X.2.2.2.2.1 _ kcX0_99) dX0_draw_13 ?_
  refine lv_land hx hb dX0_draw_16 ?_
  refine pL X hI fpX0_71 hx0 dX0_draw_17 (fun H locs hI => ?_)
  refine lv_aload_n hx hb dX0_draw_20 rfl (lv_at hl 0 rfl) ?_
  refine gL X hI fdX0_71 hx0 dX0_draw_21 ?_
  refine lv_ldc2 hx hb X.2.2.2.1 (X.2.2.2.2.1 _ kcX0_101) dX0_draw_24 ?_
  refine lv_ldiv hx hb dX0_draw_27 (by decide) ?_
  refine lv_l2i hx hb dX0_draw_28 rfl ?_
  exact rI X hI hr (g_p hm).1 (g_p hm).2 dX0_draw_29
abbrev rmX1_forget : Room := { frames := 0, cells := 0, slots := 0, locals := 0 }
def fX1_forget   (m : Mem) : Option Mem := some (mI (mI m 76 6 (0 : Int32)) 76 7 (-1 : Int32))
set_option maxHeartbeats 4000000 in
set_option maxRecDepth 100000 in
theorem ctX1_forget {l : Launch} {D : va_G} {ca : Nat → ClassId} {ad : Nat → Nat}    (hn : HNc ca) (m : Mem) (fin : Mem) (hm : fX1_forget  m = some fin) : CV l D ca ad yX1_forget cwX1_forget rmX1_forget [.ref (ad 76)] m fin := by
  refine start (by decide) (Nat.le_of_ble_eq_true rfl) ?_
  intro p e s mm args below meth c H locs ls X hI hr hl
  have X : CX p s mm args meth c cX1_forget 1 RX1 D ca ad (WA ca ad s.heap.size) := X
  have hx := X.1
  have hb := X.2.1
  have hl : lv_has ls 1 [(0, .ref (ad 76))] := hl
  have hm : (some (mI (mI m 76 6 (0 : Int32)) 76 7 (-1 : Int32))) = some fin := hm
  refine lv_aload_n hx hb dX1_forget_0 rfl (lv_at hl 0 rfl) ?_
  refine lv_iconst (v := (0 : Int32)) hx hb dX1_forget_1 (by decide) ?_
  refine pI X hI fpX1_35 (la_76 hn) dX1_forget_2 (fun H locs hI => ?_)
  refine lv_aload_n hx hb dX1_forget_5 rfl (lv_at hl 0 rfl) ?_
  refine lv_iconst (v := (-1 : Int32)) hx hb dX1_forget_6 (by decide) ?_
  refine pI X hI fpX1_31 (la_76 hn) dX1_forget_7 (fun H locs hI => ?_)
  exact rV X hI hr (g_1 hm) dX1_forget_10
abbrev rmX1_record : Room := { frames := 0, cells := 0, slots := 0, locals := 0 }
def fX1_record  (x1 : Int32) (x2 : Int32) (x3 : Int32) (x4 : Int32) (m : Mem) : Option (Int32 × Mem) := if (m.1 76 6) < 0 then (some ((-1 : Int32), m)) else (if (m.1 76 6) < (24 : Int32) then (if (m.1 76 6) < 0 ∨ 24 ≤ (m.1 76 6).toNatClampNeg then none else (if ((mI m 77 (m.1 76 6).toNatClampNeg x1).1 76 6) < 0 ∨ 24 ≤ ((mI m 77 (m.1 76 6).toNatClampNeg x1).1 76 6).toNatClampNeg then none else (if ((mI (mI m 77 (m.1 76 6).toNatClampNeg x1) 78 ((mI m 77 (m.1 76 6).toNatClampNeg x1).1 76 6).toNatClampNeg x2).1 76 6) < 0 ∨ 24 ≤ ((mI (mI m 77 (m.1 76 6).toNatClampNeg x1) 78 ((mI m 77 (m.1 76 6).toNatClampNeg x1).1 76 6).toNatClampNeg x2).1 76 6).toNatClampNeg then none else (if ((mI (mI (mI m 77 (m.1 76 6).toNatClampNeg x1) 78 ((mI m 77 (m.1 76 6).toNatClampNeg x1).1 76 6).toNatClampNeg x2) 79 ((mI (mI m 77 (m.1 76 6).toNatClampNeg x1) 78 ((mI m 77 (m.1 76 6).toNatClampNeg x1).1 76 6).toNatClampNeg x2).1 76 6).toNatClampNeg x3).1 76 6) < 0 ∨ 24 ≤ ((mI (mI (mI m 77 (m.1 76 6).toNatClampNeg x1) 78 ((mI m 77 (m.1 76 6).toNatClampNeg x1).1 76 6).toNatClampNeg x2) 79 ((mI (mI m 77 (m.1 76 6).toNatClampNeg x1) 78 ((mI m 77 (m.1 76 6).toNatClampNeg x1).1 76 6).toNatClampNeg x2).1 76 6).toNatClampNeg x3).1 76 6).toNatClampNeg then none else (if ((mI (mI (mI (mI m 77 (m.1 76 6).toNatClampNeg x1) 78 ((mI m 77 (m.1 76 6).toNatClampNeg x1).1 76 6).toNatClampNeg x2) 79 ((mI (mI m 77 (m.1 76 6).toNatClampNeg x1) 78 ((mI m 77 (m.1 76 6).toNatClampNeg x1).1 76 6).toNatClampNeg x2).1 76 6).toNatClampNeg x3) 80 ((mI (mI (mI m 77 (m.1 76 6).toNatClampNeg x1) 78 ((mI m 77 (m.1 76 6).toNatClampNeg x1).1 76 6).toNatClampNeg x2) 79 ((mI (mI m 77 (m.1 76 6).toNatClampNeg x1) 78 ((mI m 77 (m.1 76 6).toNatClampNeg x1).1 76 6).toNatClampNeg x2).1 76 6).toNatClampNeg x3).1 76 6).toNatClampNeg (vp_nar .boolean x4)).1 76 6) < 0 ∨ 24 ≤ ((mI (mI (mI (mI m 77 (m.1 76 6).toNatClampNeg x1) 78 ((mI m 77 (m.1 76 6).toNatClampNeg x1).1 76 6).toNatClampNeg x2) 79 ((mI (mI m 77 (m.1 76 6).toNatClampNeg x1) 78 ((mI m 77 (m.1 76 6).toNatClampNeg x1).1 76 6).toNatClampNeg x2).1 76 6).toNatClampNeg x3) 80 ((mI (mI (mI m 77 (m.1 76 6).toNatClampNeg x1) 78 ((mI m 77 (m.1 76 6).toNatClampNeg x1).1 76 6).toNatClampNeg x2) 79 ((mI (mI m 77 (m.1 76 6).toNatClampNeg x1) 78 ((mI m 77 (m.1 76 6).toNatClampNeg x1).1 76 6).toNatClampNeg x2).1 76 6).toNatClampNeg x3).1 76 6).toNatClampNeg (vp_nar .boolean x4)).1 76 6).toNatClampNeg then none else (some ((((mI (mI (mI (mI (mI (mI m 77 (m.1 76 6).toNatClampNeg x1) 78 ((mI m 77 (m.1 76 6).toNatClampNeg x1).1 76 6).toNatClampNeg x2) 79 ((mI (mI m 77 (m.1 76 6).toNatClampNeg x1) 78 ((mI m 77 (m.1 76 6).toNatClampNeg x1).1 76 6).toNatClampNeg x2).1 76 6).toNatClampNeg x3) 80 ((mI (mI (mI m 77 (m.1 76 6).toNatClampNeg x1) 78 ((mI m 77 (m.1 76 6).toNatClampNeg x1).1 76 6).toNatClampNeg x2) 79 ((mI (mI m 77 (m.1 76 6).toNatClampNeg x1) 78 ((mI m 77 (m.1 76 6).toNatClampNeg x1).1 76 6).toNatClampNeg x2).1 76 6).toNatClampNeg x3).1 76 6).toNatClampNeg (vp_nar .boolean x4)) 81 ((mI (mI (mI (mI m 77 (m.1 76 6).toNatClampNeg x1) 78 ((mI m 77 (m.1 76 6).toNatClampNeg x1).1 76 6).toNatClampNeg x2) 79 ((mI (mI m 77 (m.1 76 6).toNatClampNeg x1) 78 ((mI m 77 (m.1 76 6).toNatClampNeg x1).1 76 6).toNatClampNeg x2).1 76 6).toNatClampNeg x3) 80 ((mI (mI (mI m 77 (m.1 76 6).toNatClampNeg x1) 78 ((mI m 77 (m.1 76 6).toNatClampNeg x1).1 76 6).toNatClampNeg x2) 79 ((mI (mI m 77 (m.1 76 6).toNatClampNeg x1) 78 ((mI m 77 (m.1 76 6).toNatClampNeg x1).1 76 6).toNatClampNeg x2).1 76 6).toNatClampNeg x3).1 76 6).toNatClampNeg (vp_nar .boolean x4)).1 76 6).toNatClampNeg (-1 : Int32)) 76 6 (((mI (mI (mI (mI (mI m 77 (m.1 76 6).toNatClampNeg x1) 78 ((mI m 77 (m.1 76 6).toNatClampNeg x1).1 76 6).toNatClampNeg x2) 79 ((mI (mI m 77 (m.1 76 6).toNatClampNeg x1) 78 ((mI m 77 (m.1 76 6).toNatClampNeg x1).1 76 6).toNatClampNeg x2).1 76 6).toNatClampNeg x3) 80 ((mI (mI (mI m 77 (m.1 76 6).toNatClampNeg x1) 78 ((mI m 77 (m.1 76 6).toNatClampNeg x1).1 76 6).toNatClampNeg x2) 79 ((mI (mI m 77 (m.1 76 6).toNatClampNeg x1) 78 ((mI m 77 (m.1 76 6).toNatClampNeg x1).1 76 6).toNatClampNeg x2).1 76 6).toNatClampNeg x3).1 76 6).toNatClampNeg (vp_nar .boolean x4)) 81 ((mI (mI (mI (mI m 77 (m.1 76 6).toNatClampNeg x1) 78 ((mI m 77 (m.1 76 6).toNatClampNeg x1).1 76 6).toNatClampNeg x2) 79 ((mI (mI m 77 (m.1 76 6).toNatClampNeg x1) 78 ((mI m 77 (m.1 76 6).toNatClampNeg x1).1 76 6).toNatClampNeg x2).1 76 6).toNatClampNeg x3) 80 ((mI (mI (mI m 77 (m.1 76 6).toNatClampNeg x1) 78 ((mI m 77 (m.1 76 6).toNatClampNeg x1).1 76 6).toNatClampNeg x2) 79 ((mI (mI m 77 (m.1 76 6).toNatClampNeg x1) 78 ((mI m 77 (m.1 76 6).toNatClampNeg x1).1 76 6).toNatClampNeg x2).1 76 6).toNatClampNeg x3).1 76 6).toNatClampNeg (vp_nar .boolean x4)).1 76 6).toNatClampNeg (-1 : Int32)).1 76 6) + (1 : Int32))).1 76 6) - (1 : Int32)), (mI (mI (mI (mI (mI (mI m 77 (m.1 76 6).toNatClampNeg x1) 78 ((mI m 77 (m.1 76 6).toNatClampNeg x1).1 76 6).toNatClampNeg x2) 79 ((mI (mI m 77 (m.1 76 6).toNatClampNeg x1) 78 ((mI m 77 (m.1 76 6).toNatClampNeg x1).1 76 6).toNatClampNeg x2).1 76 6).toNatClampNeg x3) 80 ((mI (mI (mI m 77 (m.1 76 6).toNatClampNeg x1) 78 ((mI m 77 (m.1 76 6).toNatClampNeg x1).1 76 6).toNatClampNeg x2) 79 ((mI (mI m 77 (m.1 76 6).toNatClampNeg x1) 78 ((mI m 77 (m.1 76 6).toNatClampNeg x1).1 76 6).toNatClampNeg x2).1 76 6).toNatClampNeg x3).1 76 6).toNatClampNeg (vp_nar .boolean x4)) 81 ((mI (mI (mI (mI m 77 (m.1 76 6).toNatClampNeg x1) 78 ((mI m 77 (m.1 76 6).toNatClampNeg x1).1 76 6).toNatClampNeg x2) 79 ((mI (mI m 77 (m.1 76 6).toNatClampNeg x1) 78 ((mI m 77 (m.1 76 6).toNatClampNeg x1).1 76 6).toNatClampNeg x2).1 76 6).toNatClampNeg x3) 80 ((mI (mI (mI m 77 (m.1 76 6).toNatClampNeg x1) 78 ((mI m 77 (m.1 76 6).toNatClampNeg x1).1 76 6).toNatClampNeg x2) 79 ((mI (mI m 77 (m.1 76 6).toNatClampNeg x1) 78 ((mI m 77 (m.1 76 6).toNatClampNeg x1).1 76 6).toNatClampNeg x2).1 76 6).toNatClampNeg x3).1 76 6).toNatClampNeg (vp_nar .boolean x4)).1 76 6).toNatClampNeg (-1 : Int32)) 76 6 (((mI (mI (mI (mI (mI m 77 (m.1 76 6).toNatClampNeg x1) 78 ((mI m 77 (m.1 76 6).toNatClampNeg x1).1 76 6).toNatClampNeg x2) 79 ((mI (mI m 77 (m.1 76 6).toNatClampNeg x1) 78 ((mI m 77 (m.1 76 6).toNatClampNeg x1).1 76 6).toNatClampNeg x2).1 76 6).toNatClampNeg x3) 80 ((mI (mI (mI m 77 (m.1 76 6).toNatClampNeg x1) 78 ((mI m 77 (m.1 76 6).toNatClampNeg x1).1 76 6).toNatClampNeg x2) 79 ((mI (mI m 77 (m.1 76 6).toNatClampNeg x1) 78 ((mI m 77 (m.1 76 6).toNatClampNeg x1).1 76 6).toNatClampNeg x2).1 76 6).toNatClampNeg x3).1 76 6).toNatClampNeg (vp_nar .boolean x4)) 81 ((mI (mI (mI (mI m 77 (m.1 76 6).toNatClampNeg x1) 78 ((mI m 77 (m.1 76 6).toNatClampNeg x1).1 76 6).toNatClampNeg x2) 79 ((mI (mI m 77 (m.1 76 6).toNatClampNeg x1) 78 ((mI m 77 (m.1 76 6).toNatClampNeg x1).1 76 6).toNatClampNeg x2).1 76 6).toNatClampNeg x3) 80 ((mI (mI (mI m 77 (m.1 76 6).toNatClampNeg x1) 78 ((mI m 77 (m.1 76 6).toNatClampNeg x1).1 76 6).toNatClampNeg x2) 79 ((mI (mI m 77 (m.1 76 6).toNatClampNeg x1) 78 ((mI m 77 (m.1 76 6).toNatClampNeg x1).1 76 6).toNatClampNeg x2).1 76 6).toNatClampNeg x3).1 76 6).toNatClampNeg (vp_nar .boolean x4)).1 76 6).toNatClampNeg (-1 : Int32)).1 76 6) + (1 : Int32)))))))))) else (some ((-1 : Int32), m)))
set_option maxHeartbeats 4000000 in
set_option maxRecDepth 100000 in
theorem ctX1_record {l : Launch} {D : va_G} {ca : Nat → ClassId} {ad : Nat → Nat}  (x1 : Int32) (x2 : Int32) (x3 : Int32) (x4 : Int32)  (hn : HNc ca) (m : Mem) (fin : (Int32 × Mem)) (hm : fX1_record x1 x2 x3 x4 m = some fin) : CI l D ca ad yX1_record cwX1_record rmX1_record [.ref (ad 76), .int x1, .int x2, .int x3, .int x4] m fin.1 fin.2 := by
  refine start (by decide) (Nat.le_of_ble_eq_true rfl) ?_
  intro p e s mm args below meth c H locs ls X hI hr hl
  have X : CX p s mm args meth c cX1_record 5 RX1 D ca ad (WA ca ad s.heap.size) := X
  have hx := X.1
  have hb := X.2.1
  have hl : lv_has ls 5 [(0, .ref (ad 76)), (1, .int x1), (2, .int x2), (3, .int x3), (4, .int x4)] := hl
  have hm : (if (m.1 76 6) < 0 then (some ((-1 : Int32), m)) else (if (m.1 76 6) < (24 : Int32) then (if (m.1 76 6) < 0 ∨ 24 ≤ (m.1 76 6).toNatClampNeg then none else (if ((mI m 77 (m.1 76 6).toNatClampNeg x1).1 76 6) < 0 ∨ 24 ≤ ((mI m 77 (m.1 76 6).toNatClampNeg x1).1 76 6).toNatClampNeg then none else (if ((mI (mI m 77 (m.1 76 6).toNatClampNeg x1) 78 ((mI m 77 (m.1 76 6).toNatClampNeg x1).1 76 6).toNatClampNeg x2).1 76 6) < 0 ∨ 24 ≤ ((mI (mI m 77 (m.1 76 6).toNatClampNeg x1) 78 ((mI m 77 (m.1 76 6).toNatClampNeg x1).1 76 6).toNatClampNeg x2).1 76 6).toNatClampNeg then none else (if ((mI (mI (mI m 77 (m.1 76 6).toNatClampNeg x1) 78 ((mI m 77 (m.1 76 6).toNatClampNeg x1).1 76 6).toNatClampNeg x2) 79 ((mI (mI m 77 (m.1 76 6).toNatClampNeg x1) 78 ((mI m 77 (m.1 76 6).toNatClampNeg x1).1 76 6).toNatClampNeg x2).1 76 6).toNatClampNeg x3).1 76 6) < 0 ∨ 24 ≤ ((mI (mI (mI m 77 (m.1 76 6).toNatClampNeg x1) 78 ((mI m 77 (m.1 76 6).toNatClampNeg x1).1 76 6).toNatClampNeg x2) 79 ((mI (mI m 77 (m.1 76 6).toNatClampNeg x1) 78 ((mI m 77 (m.1 76 6).toNatClampNeg x1).1 76 6).toNatClampNeg x2).1 76 6).toNatClampNeg x3).1 76 6).toNatClampNeg then none else (if ((mI (mI (mI (mI m 77 (m.1 76 6).toNatClampNeg x1) 78 ((mI m 77 (m.1 76 6).toNatClampNeg x1).1 76 6).toNatClampNeg x2) 79 ((mI (mI m 77 (m.1 76 6).toNatClampNeg x1) 78 ((mI m 77 (m.1 76 6).toNatClampNeg x1).1 76 6).toNatClampNeg x2).1 76 6).toNatClampNeg x3) 80 ((mI (mI (mI m 77 (m.1 76 6).toNatClampNeg x1) 78 ((mI m 77 (m.1 76 6).toNatClampNeg x1).1 76 6).toNatClampNeg x2) 79 ((mI (mI m 77 (m.1 76 6).toNatClampNeg x1) 78 ((mI m 77 (m.1 76 6).toNatClampNeg x1).1 76 6).toNatClampNeg x2).1 76 6).toNatClampNeg x3).1 76 6).toNatClampNeg (vp_nar .boolean x4)).1 76 6) < 0 ∨ 24 ≤ ((mI (mI (mI (mI m 77 (m.1 76 6).toNatClampNeg x1) 78 ((mI m 77 (m.1 76 6).toNatClampNeg x1).1 76 6).toNatClampNeg x2) 79 ((mI (mI m 77 (m.1 76 6).toNatClampNeg x1) 78 ((mI m 77 (m.1 76 6).toNatClampNeg x1).1 76 6).toNatClampNeg x2).1 76 6).toNatClampNeg x3) 80 ((mI (mI (mI m 77 (m.1 76 6).toNatClampNeg x1) 78 ((mI m 77 (m.1 76 6).toNatClampNeg x1).1 76 6).toNatClampNeg x2) 79 ((mI (mI m 77 (m.1 76 6).toNatClampNeg x1) 78 ((mI m 77 (m.1 76 6).toNatClampNeg x1).1 76 6).toNatClampNeg x2).1 76 6).toNatClampNeg x3).1 76 6).toNatClampNeg (vp_nar .boolean x4)).1 76 6).toNatClampNeg then none else (some ((((mI (mI (mI (mI (mI (mI m 77 (m.1 76 6).toNatClampNeg x1) 78 ((mI m 77 (m.1 76 6).toNatClampNeg x1).1 76 6).toNatClampNeg x2) 79 ((mI (mI m 77 (m.1 76 6).toNatClampNeg x1) 78 ((mI m 77 (m.1 76 6).toNatClampNeg x1).1 76 6).toNatClampNeg x2).1 76 6).toNatClampNeg x3) 80 ((mI (mI (mI m 77 (m.1 76 6).toNatClampNeg x1) 78 ((mI m 77 (m.1 76 6).toNatClampNeg x1).1 76 6).toNatClampNeg x2) 79 ((mI (mI m 77 (m.1 76 6).toNatClampNeg x1) 78 ((mI m 77 (m.1 76 6).toNatClampNeg x1).1 76 6).toNatClampNeg x2).1 76 6).toNatClampNeg x3).1 76 6).toNatClampNeg (vp_nar .boolean x4)) 81 ((mI (mI (mI (mI m 77 (m.1 76 6).toNatClampNeg x1) 78 ((mI m 77 (m.1 76 6).toNatClampNeg x1).1 76 6).toNatClampNeg x2) 79 ((mI (mI m 77 (m.1 76 6).toNatClampNeg x1) 78 ((mI m 77 (m.1 76 6).toNatClampNeg x1).1 76 6).toNatClampNeg x2).1 76 6).toNatClampNeg x3) 80 ((mI (mI (mI m 77 (m.1 76 6).toNatClampNeg x1) 78 ((mI m 77 (m.1 76 6).toNatClampNeg x1).1 76 6).toNatClampNeg x2) 79 ((mI (mI m 77 (m.1 76 6).toNatClampNeg x1) 78 ((mI m 77 (m.1 76 6).toNatClampNeg x1).1 76 6).toNatClampNeg x2).1 76 6).toNatClampNeg x3).1 76 6).toNatClampNeg (vp_nar .boolean x4)).1 76 6).toNatClampNeg (-1 : Int32)) 76 6 (((mI (mI (mI (mI (mI m 77 (m.1 76 6).toNatClampNeg x1) 78 ((mI m 77 (m.1 76 6).toNatClampNeg x1).1 76 6).toNatClampNeg x2) 79 ((mI (mI m 77 (m.1 76 6).toNatClampNeg x1) 78 ((mI m 77 (m.1 76 6).toNatClampNeg x1).1 76 6).toNatClampNeg x2).1 76 6).toNatClampNeg x3) 80 ((mI (mI (mI m 77 (m.1 76 6).toNatClampNeg x1) 78 ((mI m 77 (m.1 76 6).toNatClampNeg x1).1 76 6).toNatClampNeg x2) 79 ((mI (mI m 77 (m.1 76 6).toNatClampNeg x1) 78 ((mI m 77 (m.1 76 6).toNatClampNeg x1).1 76 6).toNatClampNeg x2).1 76 6).toNatClampNeg x3).1 76 6).toNatClampNeg (vp_nar .boolean x4)) 81 ((mI (mI (mI (mI m 77 (m.1 76 6).toNatClampNeg x1) 78 ((mI m 77 (m.1 76 6).toNatClampNeg x1).1 76 6).toNatClampNeg x2) 79 ((mI (mI m 77 (m.1 76 6).toNatClampNeg x1) 78 ((mI m 77 (m.1 76 6).toNatClampNeg x1).1 76 6).toNatClampNeg x2).1 76 6).toNatClampNeg x3) 80 ((mI (mI (mI m 77 (m.1 76 6).toNatClampNeg x1) 78 ((mI m 77 (m.1 76 6).toNatClampNeg x1).1 76 6).toNatClampNeg x2) 79 ((mI (mI m 77 (m.1 76 6).toNatClampNeg x1) 78 ((mI m 77 (m.1 76 6).toNatClampNeg x1).1 76 6).toNatClampNeg x2).1 76 6).toNatClampNeg x3).1 76 6).toNatClampNeg (vp_nar .boolean x4)).1 76 6).toNatClampNeg (-1 : Int32)).1 76 6) + (1 : Int32))).1 76 6) - (1 : Int32)), (mI (mI (mI (mI (mI (mI m 77 (m.1 76 6).toNatClampNeg x1) 78 ((mI m 77 (m.1 76 6).toNatClampNeg x1).1 76 6).toNatClampNeg x2) 79 ((mI (mI m 77 (m.1 76 6).toNatClampNeg x1) 78 ((mI m 77 (m.1 76 6).toNatClampNeg x1).1 76 6).toNatClampNeg x2).1 76 6).toNatClampNeg x3) 80 ((mI (mI (mI m 77 (m.1 76 6).toNatClampNeg x1) 78 ((mI m 77 (m.1 76 6).toNatClampNeg x1).1 76 6).toNatClampNeg x2) 79 ((mI (mI m 77 (m.1 76 6).toNatClampNeg x1) 78 ((mI m 77 (m.1 76 6).toNatClampNeg x1).1 76 6).toNatClampNeg x2).1 76 6).toNatClampNeg x3).1 76 6).toNatClampNeg (vp_nar .boolean x4)) 81 ((mI (mI (mI (mI m 77 (m.1 76 6).toNatClampNeg x1) 78 ((mI m 77 (m.1 76 6).toNatClampNeg x1).1 76 6).toNatClampNeg x2) 79 ((mI (mI m 77 (m.1 76 6).toNatClampNeg x1) 78 ((mI m 77 (m.1 76 6).toNatClampNeg x1).1 76 6).toNatClampNeg x2).1 76 6).toNatClampNeg x3) 80 ((mI (mI (mI m 77 (m.1 76 6).toNatClampNeg x1) 78 ((mI m 77 (m.1 76 6).toNatClampNeg x1).1 76 6).toNatClampNeg x2) 79 ((mI (mI m 77 (m.1 76 6).toNatClampNeg x1) 78 ((mI m 77 (m.1 76 6).toNatClampNeg x1).1 76 6).toNatClampNeg x2).1 76 6).toNatClampNeg x3).1 76 6).toNatClampNeg (vp_nar .boolean x4)).1 76 6).toNatClampNeg (-1 : Int32)) 76 6 (((mI (mI (mI (mI (mI m 77 (m.1 76 6).toNatClampNeg x1) 78 ((mI m 77 (m.1 76 6).toNatClampNeg x1).1 76 6).toNatClampNeg x2) 79 ((mI (mI m 77 (m.1 76 6).toNatClampNeg x1) 78 ((mI m 77 (m.1 76 6).toNatClampNeg x1).1 76 6).toNatClampNeg x2).1 76 6).toNatClampNeg x3) 80 ((mI (mI (mI m 77 (m.1 76 6).toNatClampNeg x1) 78 ((mI m 77 (m.1 76 6).toNatClampNeg x1).1 76 6).toNatClampNeg x2) 79 ((mI (mI m 77 (m.1 76 6).toNatClampNeg x1) 78 ((mI m 77 (m.1 76 6).toNatClampNeg x1).1 76 6).toNatClampNeg x2).1 76 6).toNatClampNeg x3).1 76 6).toNatClampNeg (vp_nar .boolean x4)) 81 ((mI (mI (mI (mI m 77 (m.1 76 6).toNatClampNeg x1) 78 ((mI m 77 (m.1 76 6).toNatClampNeg x1).1 76 6).toNatClampNeg x2) 79 ((mI (mI m 77 (m.1 76 6).toNatClampNeg x1) 78 ((mI m 77 (m.1 76 6).toNatClampNeg x1).1 76 6).toNatClampNeg x2).1 76 6).toNatClampNeg x3) 80 ((mI (mI (mI m 77 (m.1 76 6).toNatClampNeg x1) 78 ((mI m 77 (m.1 76 6).toNatClampNeg x1).1 76 6).toNatClampNeg x2) 79 ((mI (mI m 77 (m.1 76 6).toNatClampNeg x1) 78 ((mI m 77 (m.1 76 6).toNatClampNeg x1).1 76 6).toNatClampNeg x2).1 76 6).toNatClampNeg x3).1 76 6).toNatClampNeg (vp_nar .boolean x4)).1 76 6).toNatClampNeg (-1 : Int32)).1 76 6) + (1 : Int32)))))))))) else (some ((-1 : Int32), m)))) = some fin := hm
  refine lv_aload_n hx hb dX1_record_0 rfl (lv_at hl 0 rfl) ?_
  refine gI X hI fdX1_35 (la_76 hn) dX1_record_1 ?_
  refine lv_if_lt (tgt := 16) hx hb dX1_record_4 (by decide) (fun c1 => ?_) (fun c1 => ?_)
  · have hm := g_t c1 hm
    refine lv_iconst (v := (-1 : Int32)) hx hb dX1_record_16 (by decide) ?_
    exact rI X hI hr (g_p hm).1 (g_p hm).2 dX1_record_17
  · have hm := g_f c1 hm
    refine lv_aload_n hx hb dX1_record_7 rfl (lv_at hl 0 rfl) ?_
    refine gI X hI fdX1_35 (la_76 hn) dX1_record_8 ?_
    refine lv_bipush (v := (24 : Int32)) hx hb dX1_record_11 (by decide) ?_
    refine lv_icmp_lt (tgt := 18) hx hb dX1_record_13 (by decide) (fun c2 => ?_) (fun c2 => ?_)
    · have hm := g_t c2 hm
      refine lv_aload_n hx hb dX1_record_18 rfl (lv_at hl 0 rfl) ?_
      refine gR X hI fdX1_9 (la_76 hn) rf1_0 dX1_record_19 ?_
      refine lv_aload_n hx hb dX1_record_22 rfl (lv_at hl 0 rfl) ?_
      refine gI X hI fdX1_35 (la_76 hn) dX1_record_23 ?_
      refine lv_iload_n hx hb dX1_record_26 rfl (lv_at hl 1 rfl) ?_
      obtain ⟨g3, hm⟩ := g_no hm
      refine sI X hI (la_77 hn) g3 dX1_record_27 (fun H locs hI => ?_)
      refine lv_aload_n hx hb dX1_record_28 rfl (lv_at hl 0 rfl) ?_
      refine gR X hI fdX1_15 (la_76 hn) rf1_1 dX1_record_29 ?_
      refine lv_aload_n hx hb dX1_record_32 rfl (lv_at hl 0 rfl) ?_
      refine gI X hI fdX1_35 (la_76 hn) dX1_record_33 ?_
      refine lv_iload_n hx hb dX1_record_36 rfl (lv_at hl 2 rfl) ?_
      obtain ⟨g4, hm⟩ := g_no hm
      refine sI X hI (la_78 hn) g4 dX1_record_37 (fun H locs hI => ?_)
      refine lv_aload_n hx hb dX1_record_38 rfl (lv_at hl 0 rfl) ?_
      refine gR X hI fdX1_18 (la_76 hn) rf1_2 dX1_record_39 ?_
      refine lv_aload_n hx hb dX1_record_42 rfl (lv_at hl 0 rfl) ?_
      refine gI X hI fdX1_35 (la_76 hn) dX1_record_43 ?_
      refine lv_iload_n hx hb dX1_record_46 rfl (lv_at hl 3 rfl) ?_
      obtain ⟨g5, hm⟩ := g_no hm
      refine sI X hI (la_79 hn) g5 dX1_record_47 (fun H locs hI => ?_)
      refine lv_aload_n hx hb dX1_record_48 rfl (lv_at hl 0 rfl) ?_
      refine gR X hI fdX1_21 (la_76 hn) rf1_3 dX1_record_49 ?_
      refine lv_aload_n hx hb dX1_record_52 rfl (lv_at hl 0 rfl) ?_
      refine gI X hI fdX1_35 (la_76 hn) dX1_record_53 ?_
      refine lv_iload hx hb dX1_record_56 (lv_at hl 4 rfl) ?_
      obtain ⟨g6, hm⟩ := g_no hm
      refine sZ X hI (la_80 hn) g6 dX1_record_58 (fun H locs hI => ?_)
      refine lv_aload_n hx hb dX1_record_59 rfl (lv_at hl 0 rfl) ?_
      refine gR X hI fdX1_25 (la_76 hn) rf1_4 dX1_record_60 ?_
      refine lv_aload_n hx hb dX1_record_63 rfl (lv_at hl 0 rfl) ?_
      refine gI X hI fdX1_35 (la_76 hn) dX1_record_64 ?_
      refine lv_iconst (v := (-1 : Int32)) hx hb dX1_record_67 (by decide) ?_
      obtain ⟨g7, hm⟩ := g_no hm
      refine sI X hI (la_81 hn) g7 dX1_record_68 (fun H locs hI => ?_)
      refine lv_aload_n hx hb dX1_record_69 rfl (lv_at hl 0 rfl) ?_
      refine lv_dup hx hb dX1_record_70 rfl ?_
      refine gI X hI fdX1_35 (la_76 hn) dX1_record_71 ?_
      refine lv_iconst (v := (1 : Int32)) hx hb dX1_record_74 (by decide) ?_
      refine lv_iadd hx hb dX1_record_75 ?_
      refine pI X hI fpX1_35 (la_76 hn) dX1_record_76 (fun H locs hI => ?_)
      refine lv_aload_n hx hb dX1_record_79 rfl (lv_at hl 0 rfl) ?_
      refine gI X hI fdX1_35 (la_76 hn) dX1_record_80 ?_
      refine lv_iconst (v := (1 : Int32)) hx hb dX1_record_83 (by decide) ?_
      refine lv_isub hx hb dX1_record_84 ?_
      exact rI X hI hr (g_p hm).1 (g_p hm).2 dX1_record_85
    · have hm := g_f c2 hm
      refine lv_iconst (v := (-1 : Int32)) hx hb dX1_record_16 (by decide) ?_
      exact rI X hI hr (g_p hm).1 (g_p hm).2 dX1_record_17
abbrev rmX1_recordStrike : Room := { frames := 1, cells := 0, slots := 0, locals := 24 }
def fX1_recordStrike  (x1 : Int32) (m : Mem) : Option (Int32 × Mem) := if x1 < 0 then (some ((-1 : Int32), m)) else (if x1 < (m.1 76 6) then ((fX1_record (0 : Int32) (0 : Int32) (0 : Int32) (1 : Int32) m).bind (fun q3 => if q3.1 < 0 then (some (q3.1, q3.2)) else (if (24 : Int32) ≤ q3.1 then (some (q3.1, q3.2)) else (if q3.1 < 0 ∨ 24 ≤ q3.1.toNatClampNeg then none else (some (q3.1, (mI q3.2 81 q3.1.toNatClampNeg x1))))))) else (some ((-1 : Int32), m)))
set_option maxHeartbeats 4000000 in
set_option maxRecDepth 100000 in
theorem ctX1_recordStrike {l : Launch} {D : va_G} {ca : Nat → ClassId} {ad : Nat → Nat}  (x1 : Int32)  (hn : HNc ca) (m : Mem) (fin : (Int32 × Mem)) (hm : fX1_recordStrike x1 m = some fin) : CI l D ca ad yX1_recordStrike cwX1_recordStrike rmX1_recordStrike [.ref (ad 76), .int x1] m fin.1 fin.2 := by
  refine start (by decide) (Nat.le_of_ble_eq_true rfl) ?_
  intro p e s mm args below meth c H locs ls X hI hr hl
  have X : CX p s mm args meth c cX1_recordStrike 3 RX1 D ca ad (WA ca ad s.heap.size) := X
  have hx := X.1
  have hb := X.2.1
  have hl : lv_has ls 3 [(0, .ref (ad 76)), (1, .int x1)] := hl
  have hm : (if x1 < 0 then (some ((-1 : Int32), m)) else (if x1 < (m.1 76 6) then ((fX1_record (0 : Int32) (0 : Int32) (0 : Int32) (1 : Int32) m).bind (fun q3 => if q3.1 < 0 then (some (q3.1, q3.2)) else (if (24 : Int32) ≤ q3.1 then (some (q3.1, q3.2)) else (if q3.1 < 0 ∨ 24 ≤ q3.1.toNatClampNeg then none else (some (q3.1, (mI q3.2 81 q3.1.toNatClampNeg x1))))))) else (some ((-1 : Int32), m)))) = some fin := hm
  refine lv_iload_n hx hb dX1_recordStrike_0 rfl (lv_at hl 1 rfl) ?_
  refine lv_if_lt (tgt := 12) hx hb dX1_recordStrike_1 (by decide) (fun c1 => ?_) (fun c1 => ?_)
  · have hm := g_t c1 hm
    refine lv_iconst (v := (-1 : Int32)) hx hb dX1_recordStrike_12 (by decide) ?_
    exact rI X hI hr (g_p hm).1 (g_p hm).2 dX1_recordStrike_13
  · have hm := g_f c1 hm
    refine lv_iload_n hx hb dX1_recordStrike_4 rfl (lv_at hl 1 rfl) ?_
    refine lv_aload_n hx hb dX1_recordStrike_5 rfl (lv_at hl 0 rfl) ?_
    refine gI X hI fdX1_35 (la_76 hn) dX1_recordStrike_6 ?_
    refine lv_icmp_lt (tgt := 14) hx hb dX1_recordStrike_9 (by decide) (fun c2 => ?_) (fun c2 => ?_)
    · have hm := g_t c2 hm
      refine lv_aload_n hx hb dX1_recordStrike_14 rfl (lv_at hl 0 rfl) ?_
      refine lv_iconst (v := (0 : Int32)) hx hb dX1_recordStrike_15 (by decide) ?_
      refine lv_iconst (v := (0 : Int32)) hx hb dX1_recordStrike_16 (by decide) ?_
      refine lv_iconst (v := (0 : Int32)) hx hb dX1_recordStrike_17 (by decide) ?_
      refine lv_iconst (v := (1 : Int32)) hx hb dX1_recordStrike_18 (by decide) ?_
      obtain ⟨q3, h4, hm⟩ := g_b hm
      refine backI X hI (runV X hI (ctX1_record (0 : Int32) (0 : Int32) (0 : Int32) (1 : Int32)  hn _ _ h4 _) mdX1_38 (la_76 hn) rfl ⟨rfl, rfl⟩ ⟨Nat.le_of_ble_eq_true rfl, Nat.le_of_ble_eq_true rfl⟩ rfl hl.1 rfl (Nat.le_of_ble_eq_true rfl) dX1_recordStrike_19) (fun H locs hI => ?_)
      refine lv_istore_n (lv' := [(2, .int q3.1), (0, .ref (ad 76)), (1, .int x1)]) hx hb dX1_recordStrike_22 rfl hl (by decide) rfl (fun ls hl => ?_)
      refine lv_iload_n hx hb dX1_recordStrike_23 rfl (lv_at hl 0 rfl) ?_
      refine lv_if_lt (tgt := 40) hx hb dX1_recordStrike_24 (by decide) (fun c5 => ?_) (fun c5 => ?_)
      · have hm := g_t c5 hm
        refine lv_iload_n hx hb dX1_recordStrike_40 rfl (lv_at hl 0 rfl) ?_
        exact rI X hI hr (g_p hm).1 (g_p hm).2 dX1_recordStrike_41
      · have hm := g_f c5 hm
        refine lv_iload_n hx hb dX1_recordStrike_27 rfl (lv_at hl 0 rfl) ?_
        refine lv_bipush (v := (24 : Int32)) hx hb dX1_recordStrike_28 (by decide) ?_
        refine lv_icmp_ge (tgt := 40) hx hb dX1_recordStrike_30 (by decide) (fun c6 => ?_) (fun c6 => ?_)
        · have hm := g_t c6 hm
          refine lv_iload_n hx hb dX1_recordStrike_40 rfl (lv_at hl 0 rfl) ?_
          exact rI X hI hr (g_p hm).1 (g_p hm).2 dX1_recordStrike_41
        · have hm := g_f c6 hm
          refine lv_aload_n hx hb dX1_recordStrike_33 rfl (lv_at hl 1 rfl) ?_
          refine gR X hI fdX1_25 (la_76 hn) rf1_4 dX1_recordStrike_34 ?_
          refine lv_iload_n hx hb dX1_recordStrike_37 rfl (lv_at hl 0 rfl) ?_
          refine lv_iload_n hx hb dX1_recordStrike_38 rfl (lv_at hl 2 rfl) ?_
          obtain ⟨g7, hm⟩ := g_no hm
          refine sI X hI (la_81 hn) g7 dX1_recordStrike_39 (fun H locs hI => ?_)
          refine lv_iload_n hx hb dX1_recordStrike_40 rfl (lv_at hl 0 rfl) ?_
          exact rI X hI hr (g_p hm).1 (g_p hm).2 dX1_recordStrike_41
    · have hm := g_f c2 hm
      refine lv_iconst (v := (-1 : Int32)) hx hb dX1_recordStrike_12 (by decide) ?_
      exact rI X hI hr (g_p hm).1 (g_p hm).2 dX1_recordStrike_13
abbrev rmX1_countKnown : Room := { frames := 0, cells := 0, slots := 0, locals := 0 }
def fX1_countKnown   (m : Mem) : Option Int32 := if 0 ≤ (m.1 76 7) then (some (m.1 76 7)) else (some (m.1 76 6))
set_option maxHeartbeats 4000000 in
set_option maxRecDepth 100000 in
theorem ctX1_countKnown {l : Launch} {D : va_G} {ca : Nat → ClassId} {ad : Nat → Nat}    (hn : HNc ca) (m : Mem) (fin : Int32) (hm : fX1_countKnown  m = some fin) : CI l D ca ad yX1_countKnown cwX1_countKnown rmX1_countKnown [.ref (ad 76)] m fin m := by
  refine start (by decide) (Nat.le_of_ble_eq_true rfl) ?_
  intro p e s mm args below meth c H locs ls X hI hr hl
  have X : CX p s mm args meth c cX1_countKnown 1 RX1 D ca ad (WA ca ad s.heap.size) := X
  have hx := X.1
  have hb := X.2.1
  have hl : lv_has ls 1 [(0, .ref (ad 76))] := hl
  have hm : (if 0 ≤ (m.1 76 7) then (some (m.1 76 7)) else (some (m.1 76 6))) = some fin := hm
  have hpm : m = m := rfl
  refine lv_aload_n hx hb dX1_countKnown_0 rfl (lv_at hl 0 rfl) ?_
  refine gI X hI fdX1_31 (la_76 hn) dX1_countKnown_1 ?_
  refine lv_if_ge (tgt := 14) hx hb dX1_countKnown_4 (by decide) (fun c1 => ?_) (fun c1 => ?_)
  · have hm := g_t c1 hm
    refine lv_aload_n hx hb dX1_countKnown_14 rfl (lv_at hl 0 rfl) ?_
    refine gI X hI fdX1_31 (la_76 hn) dX1_countKnown_15 ?_
    exact rI X hI hr (g_1 hm) hpm dX1_countKnown_18
  · have hm := g_f c1 hm
    refine lv_aload_n hx hb dX1_countKnown_7 rfl (lv_at hl 0 rfl) ?_
    refine gI X hI fdX1_35 (la_76 hn) dX1_countKnown_8 ?_
    refine lv_goto (tgt := 18) hx hb dX1_countKnown_11 (by decide) ?_
    exact rI X hI hr (g_1 hm) hpm dX1_countKnown_18
abbrev rmX1_sift : Room := { frames := 1, cells := 0, slots := 0, locals := 20 }
def fX1_sift_38 (N : Nat) : Nat → Int32 → Mem → Option Mem
  | 0, _, _ => none
  | n + 1, x2, m => if x2 < 0 then (some m) else (if x2 < 0 ∨ 24 ≤ x2.toNatClampNeg then none else (if x2 < 0 ∨ 24 ≤ x2.toNatClampNeg then none else (if (m.1 82 x2.toNatClampNeg) = 0 then (fX1_sift_38 N n (x2 + (-1 : Int32)) m) else (if (m.1 81 x2.toNatClampNeg) < 0 then (fX1_sift_38 N n (x2 + (-1 : Int32)) m) else (if x2 ≤ (m.1 81 x2.toNatClampNeg) then (fX1_sift_38 N n (x2 + (-1 : Int32)) m) else (if (m.1 81 x2.toNatClampNeg) < 0 ∨ 24 ≤ (m.1 81 x2.toNatClampNeg).toNatClampNeg then none else (fX1_sift_38 N n (x2 + (-1 : Int32)) (mI m 82 (m.1 81 x2.toNatClampNeg).toNatClampNeg (vp_nar .boolean (0 : Int32))))))))))
set_option maxHeartbeats 4000000 in
set_option maxRecDepth 100000 in
theorem tX1_sift_38 (N : Nat) {l : Launch} {D : va_G} {ca : Nat → ClassId} {ad : Nat → Nat} {p : Program} {e : Env} {s : State} {mm : MethodId} {args : Array Value} {below : List Frame} {meth : Method} {c : Code}  (hn : HNc ca) (X : CX p s mm args meth c cX1_sift 4 RX1 D ca ad (WA ca ad s.heap.size)) (hr : meth.sig.returnType = none) (fin : Mem)  : ∀ (n : Nat) (x2 : Int32) (m : Mem) (H : Heap) (locs : List Loc) (ls : Array Slot), IW D ca ad (WA ca ad s.heap.size) s m H locs → lv_has ls 4 [(0, .ref (ad 76)), (2, .int x2)] → fX1_sift_38 N n x2 m = some fin → W p l e rmX1_sift s mm args below meth c H locs 0 0 (MQ below (QV D ca ad s.heap.size fin) args s 0 0 (WA ca ad s.heap.size)) (F0 mm 38 ls []) := by
  have hx := X.1
  have hb := X.2.1
  intro n
  induction n with
  | zero => intro x2 m H locs ls hI hl hm
            exact absurd hm (by intro q; cases q)
  | succ n ih =>
    intro x2 m H locs ls hI hl hm
    have hm : (if x2 < 0 then (some m) else (if x2 < 0 ∨ 24 ≤ x2.toNatClampNeg then none else (if x2 < 0 ∨ 24 ≤ x2.toNatClampNeg then none else (if (m.1 82 x2.toNatClampNeg) = 0 then (fX1_sift_38 N n (x2 + (-1 : Int32)) m) else (if (m.1 81 x2.toNatClampNeg) < 0 then (fX1_sift_38 N n (x2 + (-1 : Int32)) m) else (if x2 ≤ (m.1 81 x2.toNatClampNeg) then (fX1_sift_38 N n (x2 + (-1 : Int32)) m) else (if (m.1 81 x2.toNatClampNeg) < 0 ∨ 24 ≤ (m.1 81 x2.toNatClampNeg).toNatClampNeg then none else (fX1_sift_38 N n (x2 + (-1 : Int32)) (mI m 82 (m.1 81 x2.toNatClampNeg).toNatClampNeg (vp_nar .boolean (0 : Int32))))))))))) = some fin := hm
    refine lv_iload_n hx hb dX1_sift_38 rfl (lv_at hl 1 rfl) ?_
    refine lv_if_lt (tgt := 80) hx hb dX1_sift_39 (by decide) (fun c3 => ?_) (fun c3 => ?_)
    · have hm := g_t c3 hm
      exact rV X hI hr (g_1 hm) dX1_sift_80
    · have hm := g_f c3 hm
      refine lv_aload_n hx hb dX1_sift_42 rfl (lv_at hl 0 rfl) ?_
      refine gR X hI fdX1_25 (la_76 hn) rf1_4 dX1_sift_43 ?_
      refine lv_iload_n hx hb dX1_sift_46 rfl (lv_at hl 1 rfl) ?_
      obtain ⟨g4, hm⟩ := g_no hm
      refine aI X hI (la_81 hn) g4 dX1_sift_47 ?_
      refine lv_istore_n (lv' := [(3, .int (m.1 81 x2.toNatClampNeg)), (0, .ref (ad 76)), (2, .int x2)]) hx hb dX1_sift_48 rfl hl (by decide) rfl (fun ls hl => ?_)
      refine lv_aload_n hx hb dX1_sift_49 rfl (lv_at hl 1 rfl) ?_
      refine gR X hI fdX1_28 (la_76 hn) rf1_5 dX1_sift_50 ?_
      refine lv_iload_n hx hb dX1_sift_53 rfl (lv_at hl 2 rfl) ?_
      obtain ⟨g5, hm⟩ := g_no hm
      refine aZ X hI (la_82 hn) g5 dX1_sift_54 ?_
      refine lv_if_eq (tgt := 74) hx hb dX1_sift_55 (by decide) (fun c6 => ?_) (fun c6 => ?_)
      · have hm := g_t c6 hm
        refine lv_iinc (v := (x2 + (-1 : Int32))) (lv' := [(2, .int (x2 + (-1 : Int32))), (3, .int (m.1 81 x2.toNatClampNeg)), (0, .ref (ad 76))]) hx hb dX1_sift_74 hl (k := 2) rfl rfl (by decide) rfl (fun ls hl => ?_)
        refine lv_goto (tgt := 38) hx hb dX1_sift_77 (by decide) ?_
        exact ih (x2 + (-1 : Int32)) m H locs ls hI (lv_sub hl [2, 0] rfl) hm
      · have hm := g_f c6 hm
        refine lv_iload_n hx hb dX1_sift_58 rfl (lv_at hl 0 rfl) ?_
        refine lv_if_lt (tgt := 74) hx hb dX1_sift_59 (by decide) (fun c7 => ?_) (fun c7 => ?_)
        · have hm := g_t c7 hm
          refine lv_iinc (v := (x2 + (-1 : Int32))) (lv' := [(2, .int (x2 + (-1 : Int32))), (3, .int (m.1 81 x2.toNatClampNeg)), (0, .ref (ad 76))]) hx hb dX1_sift_74 hl (k := 2) rfl rfl (by decide) rfl (fun ls hl => ?_)
          refine lv_goto (tgt := 38) hx hb dX1_sift_77 (by decide) ?_
          exact ih (x2 + (-1 : Int32)) m H locs ls hI (lv_sub hl [2, 0] rfl) hm
        · have hm := g_f c7 hm
          refine lv_iload_n hx hb dX1_sift_62 rfl (lv_at hl 0 rfl) ?_
          refine lv_iload_n hx hb dX1_sift_63 rfl (lv_at hl 2 rfl) ?_
          refine lv_icmp_ge (tgt := 74) hx hb dX1_sift_64 (by decide) (fun c8 => ?_) (fun c8 => ?_)
          · have hm := g_t c8 hm
            refine lv_iinc (v := (x2 + (-1 : Int32))) (lv' := [(2, .int (x2 + (-1 : Int32))), (3, .int (m.1 81 x2.toNatClampNeg)), (0, .ref (ad 76))]) hx hb dX1_sift_74 hl (k := 2) rfl rfl (by decide) rfl (fun ls hl => ?_)
            refine lv_goto (tgt := 38) hx hb dX1_sift_77 (by decide) ?_
            exact ih (x2 + (-1 : Int32)) m H locs ls hI (lv_sub hl [2, 0] rfl) hm
          · have hm := g_f c8 hm
            refine lv_aload_n hx hb dX1_sift_67 rfl (lv_at hl 1 rfl) ?_
            refine gR X hI fdX1_28 (la_76 hn) rf1_5 dX1_sift_68 ?_
            refine lv_iload_n hx hb dX1_sift_71 rfl (lv_at hl 0 rfl) ?_
            refine lv_iconst (v := (0 : Int32)) hx hb dX1_sift_72 (by decide) ?_
            obtain ⟨g9, hm⟩ := g_no hm
            refine sZ X hI (la_82 hn) g9 dX1_sift_73 (fun H locs hI => ?_)
            refine lv_iinc (v := (x2 + (-1 : Int32))) (lv' := [(2, .int (x2 + (-1 : Int32))), (3, .int (m.1 81 x2.toNatClampNeg)), (0, .ref (ad 76))]) hx hb dX1_sift_74 hl (k := 2) rfl rfl (by decide) rfl (fun ls hl => ?_)
            refine lv_goto (tgt := 38) hx hb dX1_sift_77 (by decide) ?_
            exact ih (x2 + (-1 : Int32)) (mI m 82 (m.1 81 x2.toNatClampNeg).toNatClampNeg (vp_nar .boolean (0 : Int32))) H locs ls hI (lv_sub hl [2, 0] rfl) hm
def fX1_sift_35 (N : Nat)  (m : Mem) : Option Mem := fX1_sift_38 N N (23 : Int32) m
set_option maxHeartbeats 4000000 in
set_option maxRecDepth 100000 in
theorem tX1_sift_35 (N : Nat) {l : Launch} {D : va_G} {ca : Nat → ClassId} {ad : Nat → Nat} {p : Program} {e : Env} {s : State} {mm : MethodId} {args : Array Value} {below : List Frame} {meth : Method} {c : Code}  (hn : HNc ca) (X : CX p s mm args meth c cX1_sift 4 RX1 D ca ad (WA ca ad s.heap.size)) (hr : meth.sig.returnType = none) (fin : Mem)  : ∀  (m : Mem) (H : Heap) (locs : List Loc) (ls : Array Slot), IW D ca ad (WA ca ad s.heap.size) s m H locs → lv_has ls 4 [(0, .ref (ad 76))] → fX1_sift_35 N m = some fin → W p l e rmX1_sift s mm args below meth c H locs 0 0 (MQ below (QV D ca ad s.heap.size fin) args s 0 0 (WA ca ad s.heap.size)) (F0 mm 35 ls []) := by
  have hx := X.1
  have hb := X.2.1
  intro m H locs ls hI hl hm
  have hm : (fX1_sift_38 N N (23 : Int32) m) = some fin := hm
  refine lv_bipush (v := (23 : Int32)) hx hb dX1_sift_35 (by decide) ?_
  refine lv_istore_n (lv' := [(2, .int (23 : Int32)), (0, .ref (ad 76))]) hx hb dX1_sift_37 rfl hl (by decide) rfl (fun ls hl => ?_)
  exact tX1_sift_38 N hn X hr fin  N (23 : Int32) m H locs ls hI (lv_sub hl [1, 0] rfl) hm
def fX1_sift_7 (N : Nat) (k35 : Mem → Option Mem) : Nat → Int32 → Int32 → Mem → Option Mem
  | 0, _, _, _ => none
  | n + 1, x1, x2, m => if (24 : Int32) ≤ x2 then (k35 m) else (if x1 ≤ x2 then (if x2 < 0 ∨ 24 ≤ x2.toNatClampNeg then none else (fX1_sift_7 N k35 n x1 (x2 + (1 : Int32)) (mI m 82 x2.toNatClampNeg (vp_nar .boolean (0 : Int32))))) else (if x2 < 0 ∨ 24 ≤ x2.toNatClampNeg then none else (fX1_sift_7 N k35 n x1 (x2 + (1 : Int32)) (mI m 82 x2.toNatClampNeg (vp_nar .boolean (1 : Int32))))))
set_option maxHeartbeats 4000000 in
set_option maxRecDepth 100000 in
theorem tX1_sift_7 (N : Nat) {l : Launch} {D : va_G} {ca : Nat → ClassId} {ad : Nat → Nat} {p : Program} {e : Env} {s : State} {mm : MethodId} {args : Array Value} {below : List Frame} {meth : Method} {c : Code} {k35 : Mem → Option Mem} (hn : HNc ca) (X : CX p s mm args meth c cX1_sift 4 RX1 D ca ad (WA ca ad s.heap.size)) (hr : meth.sig.returnType = none) (fin : Mem) (hk35 : ∀  (m : Mem) (H : Heap) (locs : List Loc) (ls : Array Slot), IW D ca ad (WA ca ad s.heap.size) s m H locs → lv_has ls 4 [(0, .ref (ad 76))] → k35 m = some fin → W p l e rmX1_sift s mm args below meth c H locs 0 0 (MQ below (QV D ca ad s.heap.size fin) args s 0 0 (WA ca ad s.heap.size)) (F0 mm 35 ls [])) : ∀ (n : Nat) (x1 : Int32) (x2 : Int32) (m : Mem) (H : Heap) (locs : List Loc) (ls : Array Slot), IW D ca ad (WA ca ad s.heap.size) s m H locs → lv_has ls 4 [(0, .ref (ad 76)), (1, .int x1), (2, .int x2)] → fX1_sift_7 N k35 n x1 x2 m = some fin → W p l e rmX1_sift s mm args below meth c H locs 0 0 (MQ below (QV D ca ad s.heap.size fin) args s 0 0 (WA ca ad s.heap.size)) (F0 mm 7 ls []) := by
  have hx := X.1
  have hb := X.2.1
  intro n
  induction n with
  | zero => intro x1 x2 m H locs ls hI hl hm
            exact absurd hm (by intro q; cases q)
  | succ n ih =>
    intro x1 x2 m H locs ls hI hl hm
    have hm : (if (24 : Int32) ≤ x2 then (k35 m) else (if x1 ≤ x2 then (if x2 < 0 ∨ 24 ≤ x2.toNatClampNeg then none else (fX1_sift_7 N k35 n x1 (x2 + (1 : Int32)) (mI m 82 x2.toNatClampNeg (vp_nar .boolean (0 : Int32))))) else (if x2 < 0 ∨ 24 ≤ x2.toNatClampNeg then none else (fX1_sift_7 N k35 n x1 (x2 + (1 : Int32)) (mI m 82 x2.toNatClampNeg (vp_nar .boolean (1 : Int32))))))) = some fin := hm
    refine lv_iload_n hx hb dX1_sift_7 rfl (lv_at hl 2 rfl) ?_
    refine lv_bipush (v := (24 : Int32)) hx hb dX1_sift_8 (by decide) ?_
    refine lv_icmp_ge (tgt := 35) hx hb dX1_sift_10 (by decide) (fun c10 => ?_) (fun c10 => ?_)
    · have hm := g_t c10 hm
      exact hk35 m H locs ls hI (lv_sub hl [0] rfl) hm
    · have hm := g_f c10 hm
      refine lv_aload_n hx hb dX1_sift_13 rfl (lv_at hl 0 rfl) ?_
      refine gR X hI fdX1_28 (la_76 hn) rf1_5 dX1_sift_14 ?_
      refine lv_iload_n hx hb dX1_sift_17 rfl (lv_at hl 2 rfl) ?_
      refine lv_iload_n hx hb dX1_sift_18 rfl (lv_at hl 2 rfl) ?_
      refine lv_iload_n hx hb dX1_sift_19 rfl (lv_at hl 1 rfl) ?_
      refine lv_icmp_ge (tgt := 27) hx hb dX1_sift_20 (by decide) (fun c11 => ?_) (fun c11 => ?_)
      · have hm := g_t c11 hm
        refine lv_iconst (v := (0 : Int32)) hx hb dX1_sift_27 (by decide) ?_
        obtain ⟨g12, hm⟩ := g_no hm
        refine sZ X hI (la_82 hn) g12 dX1_sift_28 (fun H locs hI => ?_)
        refine lv_iinc (v := (x2 + (1 : Int32))) (lv' := [(2, .int (x2 + (1 : Int32))), (0, .ref (ad 76)), (1, .int x1)]) hx hb dX1_sift_29 hl (k := 2) rfl rfl (by decide) rfl (fun ls hl => ?_)
        refine lv_goto (tgt := 7) hx hb dX1_sift_32 (by decide) ?_
        exact ih x1 (x2 + (1 : Int32)) (mI m 82 x2.toNatClampNeg (vp_nar .boolean (0 : Int32))) H locs ls hI (lv_sub hl [1, 2, 0] rfl) hm
      · have hm := g_f c11 hm
        refine lv_iconst (v := (1 : Int32)) hx hb dX1_sift_23 (by decide) ?_
        refine lv_goto (tgt := 28) hx hb dX1_sift_24 (by decide) ?_
        obtain ⟨g13, hm⟩ := g_no hm
        refine sZ X hI (la_82 hn) g13 dX1_sift_28 (fun H locs hI => ?_)
        refine lv_iinc (v := (x2 + (1 : Int32))) (lv' := [(2, .int (x2 + (1 : Int32))), (0, .ref (ad 76)), (1, .int x1)]) hx hb dX1_sift_29 hl (k := 2) rfl rfl (by decide) rfl (fun ls hl => ?_)
        refine lv_goto (tgt := 7) hx hb dX1_sift_32 (by decide) ?_
        exact ih x1 (x2 + (1 : Int32)) (mI m 82 x2.toNatClampNeg (vp_nar .boolean (1 : Int32))) H locs ls hI (lv_sub hl [1, 2, 0] rfl) hm
def fX1_sift (N : Nat)  (m : Mem) : Option Mem := (fX1_countKnown  m).bind (fun q1 => fX1_sift_7 N (fX1_sift_35 N) N q1 (0 : Int32) m)
set_option maxHeartbeats 4000000 in
set_option maxRecDepth 100000 in
theorem ctX1_sift {l : Launch} {D : va_G} {ca : Nat → ClassId} {ad : Nat → Nat} (N : Nat)   (hn : HNc ca) (m : Mem) (fin : Mem) (hm : fX1_sift N m = some fin) : CV l D ca ad yX1_sift cwX1_sift rmX1_sift [.ref (ad 76)] m fin := by
  refine start (by decide) (Nat.le_of_ble_eq_true rfl) ?_
  intro p e s mm args below meth c H locs ls X hI hr hl
  have X : CX p s mm args meth c cX1_sift 4 RX1 D ca ad (WA ca ad s.heap.size) := X
  have hx := X.1
  have hb := X.2.1
  have hl : lv_has ls 4 [(0, .ref (ad 76))] := hl
  have hm : ((fX1_countKnown  m).bind (fun q1 => fX1_sift_7 N (fX1_sift_35 N) N q1 (0 : Int32) m)) = some fin := hm
  refine lv_aload_n hx hb dX1_sift_0 rfl (lv_at hl 0 rfl) ?_
  obtain ⟨q1, h2, hm⟩ := g_b hm
  refine backI X hI (runV X hI (ctX1_countKnown   hn _ _ h2 _) mdX1_42 (la_76 hn) rfl ⟨rfl, rfl⟩ ⟨Nat.le_of_ble_eq_true rfl, Nat.le_of_ble_eq_true rfl⟩ rfl hl.1 rfl (Nat.le_of_ble_eq_true rfl) dX1_sift_1) (fun H locs hI => ?_)
  refine lv_istore_n (lv' := [(1, .int q1), (0, .ref (ad 76))]) hx hb dX1_sift_4 rfl hl (by decide) rfl (fun ls hl => ?_)
  refine lv_iconst (v := (0 : Int32)) hx hb dX1_sift_5 (by decide) ?_
  refine lv_istore_n (lv' := [(2, .int (0 : Int32)), (1, .int q1), (0, .ref (ad 76))]) hx hb dX1_sift_6 rfl hl (by decide) rfl (fun ls hl => ?_)
  exact tX1_sift_7 N hn X hr fin (tX1_sift_35 N hn X hr fin ) N q1 (0 : Int32) m H locs ls hI (lv_sub hl [2, 1, 0] rfl) hm
