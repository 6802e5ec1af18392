abbrev rmX3_put : Room := { frames := 0, cells := 0, slots := 0, locals := 0 }
def fX3_put  (x0 : Nat) (x1 : Int32) (x2 : Int32) (m : Mem) : Option Mem := if (m.1 x0 7) < 0 then (some m) else (if (64 : Int32) ≤ (m.1 x0 7) then (some m) else (if (m.1 x0 7) < 0 ∨ 64 ≤ (m.1 x0 7).toNatClampNeg then none else (if ((mI m (x0 + 1) (m.1 x0 7).toNatClampNeg x1).1 x0 7) < 0 ∨ 64 ≤ ((mI m (x0 + 1) (m.1 x0 7).toNatClampNeg x1).1 x0 7).toNatClampNeg then none else (some (mI (mI (mI m (x0 + 1) (m.1 x0 7).toNatClampNeg x1) (x0 + 2) ((mI m (x0 + 1) (m.1 x0 7).toNatClampNeg x1).1 x0 7).toNatClampNeg x2) x0 7 (((mI (mI m (x0 + 1) (m.1 x0 7).toNatClampNeg x1) (x0 + 2) ((mI m (x0 + 1) (m.1 x0 7).toNatClampNeg x1).1 x0 7).toNatClampNeg x2).1 x0 7) + (1 : Int32)))))))
set_option maxHeartbeats 4000000 in
set_option maxRecDepth 100000 in
theorem ctX3_put {l : Launch} {D : va_G} {ca : Nat → ClassId} {ad : Nat → Nat}  (x0 : Nat) (x1 : Int32) (x2 : Int32) (hx0 : ly ca x0 = (0, 3)) (hn : HNc ca) (m : Mem) (fin : Mem) (hm : fX3_put x0 x1 x2 m = some fin) : CV l D ca ad yX3_put cwX3_put rmX3_put [.ref (ad x0), .int x1, .int x2] m fin := by
  refine start (by decide) (Nat.le_of_ble_eq_true rfl) ?_
  intro p e s mm args below meth c H locs ls X hI hr hl
  have X : CX p s mm args meth c cX3_put 3 RX3 D ca ad (WA ca ad s.heap.size) := X
  have hx := X.1
  have hb := X.2.1
  have hl : lv_has ls 3 [(0, .ref (ad x0)), (1, .int x1), (2, .int x2)] := hl
  have hm : (if (m.1 x0 7) < 0 then (some m) else (if (64 : Int32) ≤ (m.1 x0 7) then (some m) else (if (m.1 x0 7) < 0 ∨ 64 ≤ (m.1 x0 7).toNatClampNeg then none else (if ((mI m (x0 + 1) (m.1 x0 7).toNatClampNeg x1).1 x0 7) < 0 ∨ 64 ≤ ((mI m (x0 + 1) (m.1 x0 7).toNatClampNeg x1).1 x0 7).toNatClampNeg then none else (some (mI (mI (mI m (x0 + 1) (m.1 x0 7).toNatClampNeg x1) (x0 + 2) ((mI m (x0 + 1) (m.1 x0 7).toNatClampNeg x1).1 x0 7).toNatClampNeg x2) x0 7 (((mI (mI m (x0 + 1) (m.1 x0 7).toNatClampNeg x1) (x0 + 2) ((mI m (x0 + 1) (m.1 x0 7).toNatClampNeg x1).1 x0 7).toNatClampNeg x2).1 x0 7) + (1 : Int32)))))))) = some fin := hm
  refine lv_aload_n hx hb dX3_put_0 rfl (lv_at hl 0 rfl) ?_
  refine gI X hI fdX3_35 hx0 dX3_put_1 ?_
  refine lv_if_lt (tgt := 46) hx hb dX3_put_4 (by decide) (fun c1 => ?_) (fun c1 => ?_)
  · have hm := g_t c1 hm
    exact rV X hI hr (g_1 hm) dX3_put_46
  · have hm := g_f c1 hm
    refine lv_aload_n hx hb dX3_put_7 rfl (lv_at hl 0 rfl) ?_
    refine gI X hI fdX3_35 hx0 dX3_put_8 ?_
    refine lv_bipush (v := (64 : Int32)) hx hb dX3_put_11 (by decide) ?_
    refine lv_icmp_ge (tgt := 46) hx hb dX3_put_13 (by decide) (fun c2 => ?_) (fun c2 => ?_)
    · have hm := g_t c2 hm
      exact rV X hI hr (g_1 hm) dX3_put_46
    · have hm := g_f c2 hm
      refine lv_aload_n hx hb dX3_put_16 rfl (lv_at hl 0 rfl) ?_
      refine gR X hI fdX3_11 hx0 rf3_0 dX3_put_17 ?_
      refine lv_aload_n hx hb dX3_put_20 rfl (lv_at hl 0 rfl) ?_
      refine gI X hI fdX3_35 hx0 dX3_put_21 ?_
      refine lv_iload_n hx hb dX3_put_24 rfl (lv_at hl 1 rfl) ?_
      obtain ⟨g3, hm⟩ := g_no hm
      refine sI X hI (lf3_0 hn hx0) g3 dX3_put_25 (fun H locs hI => ?_)
      refine lv_aload_n hx hb dX3_put_26 rfl (lv_at hl 0 rfl) ?_
      refine gR X hI fdX3_15 hx0 rf3_1 dX3_put_27 ?_
      refine lv_aload_n hx hb dX3_put_30 rfl (lv_at hl 0 rfl) ?_
      refine gI X hI fdX3_35 hx0 dX3_put_31 ?_
      refine lv_iload_n hx hb dX3_put_34 rfl (lv_at hl 2 rfl) ?_
      obtain ⟨g4, hm⟩ := g_no hm
      refine sI X hI (lf3_1 hn hx0) g4 dX3_put_35 (fun H locs hI => ?_)
      refine lv_aload_n hx hb dX3_put_36 rfl (lv_at hl 0 rfl) ?_
      refine lv_dup hx hb dX3_put_37 rfl ?_
      refine gI X hI fdX3_35 hx0 dX3_put_38 ?_
      refine lv_iconst (v := (1 : Int32)) hx hb dX3_put_41 (by decide) ?_
      refine lv_iadd hx hb dX3_put_42 ?_
      refine pI X hI fpX3_35 hx0 dX3_put_43 (fun H locs hI => ?_)
      exact rV X hI hr (g_1 hm) dX3_put_46
abbrev rmX3_close : Room := { frames := 0, cells := 0, slots := 0, locals := 0 }
def fX3_close  (x0 : Nat) (x1 : Int32) (x2 : Int32) (m : Mem) : Option Mem := if x1 < 0 then (some m) else (if (2 : Int32) < x1 then (some m) else (if x1 < 0 ∨ 3 ≤ x1.toNatClampNeg then none else (if x1 < 0 ∨ 3 ≤ x1.toNatClampNeg then none else (some (mI (mI m (x0 + 3) x1.toNatClampNeg x2) (x0 + 4) x1.toNatClampNeg ((mI m (x0 + 3) x1.toNatClampNeg x2).1 x0 7))))))
set_option maxHeartbeats 4000000 in
set_option maxRecDepth 100000 in
theorem ctX3_close {l : Launch} {D : va_G} {ca : Nat → ClassId} {ad : Nat → Nat}  (x0 : Nat) (x1 : Int32) (x2 : Int32) (hx0 : ly ca x0 = (0, 3)) (hn : HNc ca) (m : Mem) (fin : Mem) (hm : fX3_close x0 x1 x2 m = some fin) : CV l D ca ad yX3_close cwX3_close rmX3_close [.ref (ad x0), .int x1, .int x2] m fin := by
  refine start (by decide) (Nat.le_of_ble_eq_true rfl) ?_
  intro p e s mm args below meth c H locs ls X hI hr hl
  have X : CX p s mm args meth c cX3_close 3 RX3 D ca ad (WA ca ad s.heap.size) := X
  have hx := X.1
  have hb := X.2.1
  have hl : lv_has ls 3 [(0, .ref (ad x0)), (1, .int x1), (2, .int x2)] := hl
  have hm : (if x1 < 0 then (some m) else (if (2 : Int32) < x1 then (some m) else (if x1 < 0 ∨ 3 ≤ x1.toNatClampNeg then none else (if x1 < 0 ∨ 3 ≤ x1.toNatClampNeg then none else (some (mI (mI m (x0 + 3) x1.toNatClampNeg x2) (x0 + 4) x1.toNatClampNeg ((mI m (x0 + 3) x1.toNatClampNeg x2).1 x0 7))))))) = some fin := hm
  refine lv_iload_n hx hb dX3_close_0 rfl (lv_at hl 1 rfl) ?_
  refine lv_if_lt (tgt := 26) hx hb dX3_close_1 (by decide) (fun c1 => ?_) (fun c1 => ?_)
  · have hm := g_t c1 hm
    exact rV X hI hr (g_1 hm) dX3_close_26
  · have hm := g_f c1 hm
    refine lv_iload_n hx hb dX3_close_4 rfl (lv_at hl 1 rfl) ?_
    refine lv_iconst (v := (2 : Int32)) hx hb dX3_close_5 (by decide) ?_
    refine lv_icmp_gt (tgt := 26) hx hb dX3_close_6 (by decide) (fun c2 => ?_) (fun c2 => ?_)
    · have hm := g_t c2 hm
      exact rV X hI hr (g_1 hm) dX3_close_26
    · have hm := g_f c2 hm
      refine lv_aload_n hx hb dX3_close_9 rfl (lv_at hl 0 rfl) ?_
      refine gR X hI fdX3_18 hx0 rf3_2 dX3_close_10 ?_
      refine lv_iload_n hx hb dX3_close_13 rfl (lv_at hl 1 rfl) ?_
      refine lv_iload_n hx hb dX3_close_14 rfl (lv_at hl 2 rfl) ?_
      obtain ⟨g3, hm⟩ := g_no hm
      refine sI X hI (lf3_2 hn hx0) g3 dX3_close_15 (fun H locs hI => ?_)
      refine lv_aload_n hx hb dX3_close_16 rfl (lv_at hl 0 rfl) ?_
      refine gR X hI fdX3_21 hx0 rf3_3 dX3_close_17 ?_
      refine lv_iload_n hx hb dX3_close_20 rfl (lv_at hl 1 rfl) ?_
      refine lv_aload_n hx hb dX3_close_21 rfl (lv_at hl 0 rfl) ?_
      refine gI X hI fdX3_35 hx0 dX3_close_22 ?_
      obtain ⟨g4, hm⟩ := g_no hm
      refine sI X hI (lf3_3 hn hx0) g4 dX3_close_25 (fun H locs hI => ?_)
      exact rV X hI hr (g_1 hm) dX3_close_26
abbrev rmX4_gainWith : Room := { frames := 0, cells := 0, slots := 0, locals := 0 }
def fX4_gainWith  (x1 : Nat) (x2 : Int32) (x3 : Int32) (x4 : Int32) (m : Mem) : Option Int32 := if ((x2 * (6 : Int32)) + x4) < 0 ∨ 36 ≤ ((x2 * (6 : Int32)) + x4).toNatClampNeg then none else (if (m.1 97 ((x2 * (6 : Int32)) + x4).toNatClampNeg) = 0 then (some (-1 : Int32)) else (if ((x3 >>> (x4 &&& 31)) &&& (1 : Int32)) = (1 : Int32) then (some (-1 : Int32)) else (if x4 < 0 ∨ 6 ≤ x4.toNatClampNeg then none else (if (((x2 + (1 : Int32)) * (64 : Int32)) + (x3 ||| ((1 : Int32) <<< (x4 &&& 31)))) < 0 ∨ 448 ≤ (((x2 + (1 : Int32)) * (64 : Int32)) + (x3 ||| ((1 : Int32) <<< (x4 &&& 31)))).toNatClampNeg then none else (some (((10000 : Int32) + (m.1 (x1 + 2) x4.toNatClampNeg)) + (m.1 96 (((x2 + (1 : Int32)) * (64 : Int32)) + (x3 ||| ((1 : Int32) <<< (x4 &&& 31)))).toNatClampNeg)))))))
set_option maxHeartbeats 4000000 in
set_option maxRecDepth 100000 in
theorem ctX4_gainWith {l : Launch} {D : va_G} {ca : Nat → ClassId} {ad : Nat → Nat}  (x1 : Nat) (x2 : Int32) (x3 : Int32) (x4 : Int32) (hx1 : ly ca x1 = (0, 0)) (hn : HNc ca) (m : Mem) (fin : Int32) (hm : fX4_gainWith x1 x2 x3 x4 m = some fin) : CI l D ca ad yX4_gainWith cwX4_gainWith rmX4_gainWith [.ref (ad 95), .ref (ad x1), .int x2, .int x3, .int x4] m fin m := by
  refine start (by decide) (Nat.le_of_ble_eq_true rfl) ?_
  intro p e s mm args below meth c H locs ls X hI hr hl
  have X : CX p s mm args meth c cX4_gainWith 5 RX4 D ca ad (WA ca ad s.heap.size) := X
  have hx := X.1
  have hb := X.2.1
  have hl : lv_has ls 5 [(0, .ref (ad 95)), (1, .ref (ad x1)), (2, .int x2), (3, .int x3), (4, .int x4)] := hl
  have hm : (if ((x2 * (6 : Int32)) + x4) < 0 ∨ 36 ≤ ((x2 * (6 : Int32)) + x4).toNatClampNeg then none else (if (m.1 97 ((x2 * (6 : Int32)) + x4).toNatClampNeg) = 0 then (some (-1 : Int32)) else (if ((x3 >>> (x4 &&& 31)) &&& (1 : Int32)) = (1 : Int32) then (some (-1 : Int32)) else (if x4 < 0 ∨ 6 ≤ x4.toNatClampNeg then none else (if (((x2 + (1 : Int32)) * (64 : Int32)) + (x3 ||| ((1 : Int32) <<< (x4 &&& 31)))) < 0 ∨ 448 ≤ (((x2 + (1 : Int32)) * (64 : Int32)) + (x3 ||| ((1 : Int32) <<< (x4 &&& 31)))).toNatClampNeg then none else (some (((10000 : Int32) + (m.1 (x1 + 2) x4.toNatClampNeg)) + (m.1 96 (((x2 + (1 : Int32)) * (64 : Int32)) + (x3 ||| ((1 : Int32) <<< (x4 &&& 31)))).toNatClampNeg)))))))) = some fin := hm
  have hpm : m = m := rfl
  refine lv_aload_n hx hb dX4_gainWith_0 rfl (lv_at hl 0 rfl) ?_
  refine gR X hI fdX4_15 (la_95 hn) rf4_1 dX4_gainWith_1 ?_
  refine lv_iload_n hx hb dX4_gainWith_4 rfl (lv_at hl 2 rfl) ?_
  refine lv_bipush (v := (6 : Int32)) hx hb dX4_gainWith_5 (by decide) ?_
  refine lv_imul hx hb dX4_gainWith_7 ?_
  refine lv_iload hx hb dX4_gainWith_8 (lv_at hl 4 rfl) ?_
  refine lv_iadd hx hb dX4_gainWith_10 ?_
  obtain ⟨g1, hm⟩ := g_no hm
  refine aZ X hI (la_97 hn) g1 dX4_gainWith_11 ?_
  refine lv_if_eq (tgt := 25) hx hb dX4_gainWith_12 (by decide) (fun c2 => ?_) (fun c2 => ?_)
  · have hm := g_t c2 hm
    refine lv_iconst (v := (-1 : Int32)) hx hb dX4_gainWith_25 (by decide) ?_
    exact rI X hI hr (g_1 hm) hpm dX4_gainWith_26
  · have hm := g_f c2 hm
    refine lv_iload_n hx hb dX4_gainWith_15 rfl (lv_at hl 3 rfl) ?_
    refine lv_iload hx hb dX4_gainWith_16 (lv_at hl 4 rfl) ?_
    refine lv_ishr hx hb dX4_gainWith_18 ?_
    refine lv_iconst (v := (1 : Int32)) hx hb dX4_gainWith_19 (by decide) ?_
    refine lv_iand hx hb dX4_gainWith_20 ?_
    refine lv_iconst (v := (1 : Int32)) hx hb dX4_gainWith_21 (by decide) ?_
    refine lv_icmp_ne (tgt := 27) hx hb dX4_gainWith_22 (by decide) (fun c3 => ?_) (fun c3 => ?_)
    · have hm := g_f c3 hm
      refine lv_sipush (v := (10000 : Int32)) hx hb dX4_gainWith_27 (by decide) ?_
      refine lv_aload_n hx hb dX4_gainWith_30 rfl (lv_at hl 1 rfl) ?_
      refine gR X hI fdX4_62 hx1 rf0_1 dX4_gainWith_31 ?_
      refine lv_iload hx hb dX4_gainWith_34 (lv_at hl 4 rfl) ?_
      obtain ⟨g4, hm⟩ := g_no hm
      refine aI X hI (lf0_1 hn hx1) g4 dX4_gainWith_36 ?_
      refine lv_iadd hx hb dX4_gainWith_37 ?_
      refine lv_aload_n hx hb dX4_gainWith_38 rfl (lv_at hl 0 rfl) ?_
      refine gR X hI fdX4_11 (la_95 hn) rf4_0 dX4_gainWith_39 ?_
      refine lv_iload_n hx hb dX4_gainWith_42 rfl (lv_at hl 2 rfl) ?_
      refine lv_iconst (v := (1 : Int32)) hx hb dX4_gainWith_43 (by decide) ?_
      refine lv_iadd hx hb dX4_gainWith_44 ?_
      refine lv_bipush (v := (64 : Int32)) hx hb dX4_gainWith_45 (by decide) ?_
      refine lv_imul hx hb dX4_gainWith_47 ?_
      refine lv_iload_n hx hb dX4_gainWith_48 rfl (lv_at hl 3 rfl) ?_
      refine lv_iconst (v := (1 : Int32)) hx hb dX4_gainWith_49 (by decide) ?_
      refine lv_iload hx hb dX4_gainWith_50 (lv_at hl 4 rfl) ?_
      refine lv_ishl hx hb dX4_gainWith_52 ?_
      refine lv_ior hx hb dX4_gainWith_53 ?_
      refine lv_iadd hx hb dX4_gainWith_54 ?_
      obtain ⟨g5, hm⟩ := g_no hm
      refine aI X hI (la_96 hn) g5 dX4_gainWith_55 ?_
      refine lv_iadd hx hb dX4_gainWith_56 ?_
      exact rI X hI hr (g_1 hm) hpm dX4_gainWith_57
    · have hm := g_t c3 hm
      refine lv_iconst (v := (-1 : Int32)) hx hb dX4_gainWith_25 (by decide) ?_
      exact rI X hI hr (g_1 hm) hpm dX4_gainWith_26
abbrev rmX4_bestOf : Room := { frames := 1, cells := 0, slots := 0, locals := 24 }
def fX4_bestOf_18 (N : Nat) : Nat → Nat → Int32 → Int32 → Int32 → Int32 → Mem → Option Int32
  | 0, _, _, _, _, _, _ => none
  | n + 1, x1, x2, x3, x4, x5, m => if (6 : Int32) ≤ x5 then (some x4) else ((fX4_gainWith x1 x2 x3 x5 m).bind (fun q3 => fX4_bestOf_18 N n x1 x2 x3 (imax x4 q3) (x5 + (1 : Int32)) m))
set_option maxHeartbeats 4000000 in
set_option maxRecDepth 100000 in
theorem tX4_bestOf_18 (N : Nat) {l : Launch} {D : va_G} {ca : Nat → ClassId} {ad : Nat → Nat} {p : Program} {e : Env} {s : State} {mm : MethodId} {args : Array Value} {below : List Frame} {meth : Method} {c : Code}  (hn : HNc ca) (X : CX p s mm args meth c cX4_bestOf 6 RX4 D ca ad (WA ca ad s.heap.size)) (hr : meth.sig.returnType = (some .int)) (fin : Int32) (m0 : Mem)  : ∀ (n : Nat) (x1 : Nat) (x2 : Int32) (x3 : Int32) (x4 : Int32) (x5 : Int32) (m : Mem) (H : Heap) (locs : List Loc) (ls : Array Slot), ly ca x1 = (0, 0) → IW D ca ad (WA ca ad s.heap.size) s m H locs → lv_has ls 6 [(0, .ref (ad 95)), (1, .ref (ad x1)), (2, .int x2), (3, .int x3), (4, .int x4), (5, .int x5)] → fX4_bestOf_18 N n x1 x2 x3 x4 x5 m = some fin → m = m0 → W p l e rmX4_bestOf s mm args below meth c H locs 0 0 (MQ below (QI D ca ad s.heap.size fin m0) args s 0 0 (WA ca ad s.heap.size)) (F0 mm 18 ls []) := by
  have hx := X.1
  have hb := X.2.1
  intro n
  induction n with
  | zero => intro x1 x2 x3 x4 x5 m H locs ls hx1 hI hl hm hpm
            exact absurd hm (by intro q; cases q)
  | succ n ih =>
    intro x1 x2 x3 x4 x5 m H locs ls hx1 hI hl hm hpm
    have hm : (if (6 : Int32) ≤ x5 then (some x4) else ((fX4_gainWith x1 x2 x3 x5 m).bind (fun q3 => fX4_bestOf_18 N n x1 x2 x3 (imax x4 q3) (x5 + (1 : Int32)) m))) = some fin := hm
    refine lv_iload hx hb dX4_bestOf_18 (lv_at hl 5 rfl) ?_
    refine lv_bipush (v := (6 : Int32)) hx hb dX4_bestOf_20 (by decide) ?_
    refine lv_icmp_ge (tgt := 47) hx hb dX4_bestOf_22 (by decide) (fun c2 => ?_) (fun c2 => ?_)
    · have hm := g_t c2 hm
      refine lv_iload hx hb dX4_bestOf_47 (lv_at hl 4 rfl) ?_
      exact rI X hI hr (g_1 hm) hpm dX4_bestOf_49
    · have hm := g_f c2 hm
      refine lv_iload hx hb dX4_bestOf_25 (lv_at hl 4 rfl) ?_
      refine lv_aload_n hx hb dX4_bestOf_27 rfl (lv_at hl 0 rfl) ?_
      refine lv_aload_n hx hb dX4_bestOf_28 rfl (lv_at hl 1 rfl) ?_
      refine lv_iload_n hx hb dX4_bestOf_29 rfl (lv_at hl 2 rfl) ?_
      refine lv_iload_n hx hb dX4_bestOf_30 rfl (lv_at hl 3 rfl) ?_
      refine lv_iload hx hb dX4_bestOf_31 (lv_at hl 5 rfl) ?_
      obtain ⟨q3, h4, hm⟩ := g_b hm
      refine backI X hI (runV X hI (ctX4_gainWith x1 x2 x3 x5 hx1 hn _ _ h4 _) mdX4_55 (la_95 hn) rfl ⟨rfl, rfl⟩ ⟨Nat.le_of_ble_eq_true rfl, Nat.le_of_ble_eq_true rfl⟩ rfl hl.1 rfl (Nat.le_of_ble_eq_true rfl) dX4_bestOf_33) (fun H locs hI => ?_)
      refine kMax X mpX4_59 hl.1 (Nat.le_of_ble_eq_true rfl) (Nat.le_of_ble_eq_true rfl) dX4_bestOf_36 ?_
      refine lv_istore (lv' := [(4, .int (imax x4 q3)), (0, .ref (ad 95)), (1, .ref (ad x1)), (2, .int x2), (3, .int x3), (5, .int x5)]) hx hb dX4_bestOf_39 hl (by decide) rfl (fun ls hl => ?_)
      refine lv_iinc (v := (x5 + (1 : Int32))) (lv' := [(5, .int (x5 + (1 : Int32))), (4, .int (imax x4 q3)), (0, .ref (ad 95)), (1, .ref (ad x1)), (2, .int x2), (3, .int x3)]) hx hb dX4_bestOf_41 hl (k := 5) rfl rfl (by decide) rfl (fun ls hl => ?_)
      refine lv_goto (tgt := 18) hx hb dX4_bestOf_44 (by decide) ?_
      exact ih x1 x2 x3 (imax x4 q3) (x5 + (1 : Int32)) m H locs ls hx1 hI (lv_sub hl [2, 3, 4, 5, 1, 0] rfl) hm hpm
def fX4_bestOf (N : Nat) (x1 : Nat) (x2 : Int32) (x3 : Int32) (m : Mem) : Option Int32 := if (((x2 + (1 : Int32)) * (64 : Int32)) + x3) < 0 ∨ 448 ≤ (((x2 + (1 : Int32)) * (64 : Int32)) + x3).toNatClampNeg then none else (fX4_bestOf_18 N N x1 x2 x3 (m.1 96 (((x2 + (1 : Int32)) * (64 : Int32)) + x3).toNatClampNeg) (0 : Int32) m)
set_option maxHeartbeats 4000000 in
set_option maxRecDepth 100000 in
theorem ctX4_bestOf {l : Launch} {D : va_G} {ca : Nat → ClassId} {ad : Nat → Nat} (N : Nat) (x1 : Nat) (x2 : Int32) (x3 : Int32) (hx1 : ly ca x1 = (0, 0)) (hn : HNc ca) (m : Mem) (fin : Int32) (hm : fX4_bestOf N x1 x2 x3 m = some fin) : CI l D ca ad yX4_bestOf cwX4_bestOf rmX4_bestOf [.ref (ad 95), .ref (ad x1), .int x2, .int x3] m fin m := by
  refine start (by decide) (Nat.le_of_ble_eq_true rfl) ?_
  intro p e s mm args below meth c H locs ls X hI hr hl
  have X : CX p s mm args meth c cX4_bestOf 6 RX4 D ca ad (WA ca ad s.heap.size) := X
  have hx := X.1
  have hb := X.2.1
  have hl : lv_has ls 6 [(0, .ref (ad 95)), (1, .ref (ad x1)), (2, .int x2), (3, .int x3)] := hl
  have hm : (if (((x2 + (1 : Int32)) * (64 : Int32)) + x3) < 0 ∨ 448 ≤ (((x2 + (1 : Int32)) * (64 : Int32)) + x3).toNatClampNeg then none else (fX4_bestOf_18 N N x1 x2 x3 (m.1 96 (((x2 + (1 : Int32)) * (64 : Int32)) + x3).toNatClampNeg) (0 : Int32) m)) = some fin := hm
  have hpm : m = m := rfl
  refine lv_aload_n hx hb dX4_bestOf_0 rfl (lv_at hl 0 rfl) ?_
  refine gR X hI fdX4_11 (la_95 hn) rf4_0 dX4_bestOf_1 ?_
  refine lv_iload_n hx hb dX4_bestOf_4 rfl (lv_at hl 2 rfl) ?_
  refine lv_iconst (v := (1 : Int32)) hx hb dX4_bestOf_5 (by decide) ?_
  refine lv_iadd hx hb dX4_bestOf_6 ?_
  refine lv_bipush (v := (64 : Int32)) hx hb dX4_bestOf_7 (by decide) ?_
  refine lv_imul hx hb dX4_bestOf_9 ?_
  refine lv_iload_n hx hb dX4_bestOf_10 rfl (lv_at hl 3 rfl) ?_
  refine lv_iadd hx hb dX4_bestOf_11 ?_
  obtain ⟨g1, hm⟩ := g_no hm
  refine aI X hI (la_96 hn) g1 dX4_bestOf_12 ?_
  refine lv_istore (lv' := [(4, .int (m.1 96 (((x2 + (1 : Int32)) * (64 : Int32)) + x3).toNatClampNeg)), (0, .ref (ad 95)), (1, .ref (ad x1)), (2, .int x2), (3, .int x3)]) hx hb dX4_bestOf_13 hl (by decide) rfl (fun ls hl => ?_)
  refine lv_iconst (v := (0 : Int32)) hx hb dX4_bestOf_15 (by decide) ?_
  refine lv_istore (lv' := [(5, .int (0 : Int32)), (4, .int (m.1 96 (((x2 + (1 : Int32)) * (64 : Int32)) + x3).toNatClampNeg)), (0, .ref (ad 95)), (1, .ref (ad x1)), (2, .int x2), (3, .int x3)]) hx hb dX4_bestOf_16 hl (by decide) rfl (fun ls hl => ?_)
  exact tX4_bestOf_18 N hn X hr fin m  N x1 x2 x3 (m.1 96 (((x2 + (1 : Int32)) * (64 : Int32)) + x3).toNatClampNeg) (0 : Int32) m H locs ls hx1 hI (lv_sub hl [2, 3, 4, 5, 1, 0] rfl) hm hpm
abbrev rmX4_choose : Room := { frames := 1, cells := 0, slots := 0, locals := 24 }
def fX4_choose_115 (N : Nat) (k33 : Nat → Int32 → Int32 → Int32 → Mem → Option Mem) (x1 : Nat) (x2 : Int32) (x3 : Int32) (x4 : Int32) (m : Mem) : Option Mem := if x4 < 0 ∨ 6 ≤ x4.toNatClampNeg then none else (if (m.1 98 x4.toNatClampNeg) < 0 then (k33 x1 x2 x3 (x4 + (1 : Int32)) m) else (if x4 < 0 ∨ 6 ≤ x4.toNatClampNeg then none else (k33 x1 x2 (x3 ||| ((1 : Int32) <<< ((m.1 98 x4.toNatClampNeg) &&& 31))) (x4 + (1 : Int32)) m)))
set_option maxHeartbeats 4000000 in
set_option maxRecDepth 100000 in
theorem tX4_choose_115 (N : Nat) {l : Launch} {D : va_G} {ca : Nat → ClassId} {ad : Nat → Nat} {p : Program} {e : Env} {s : State} {mm : MethodId} {args : Array Value} {below : List Frame} {meth : Method} {c : Code} {k33 : Nat → Int32 → Int32 → Int32 → Mem → Option Mem} (hn : HNc ca) (X : CX p s mm args meth c cX4_choose 6 RX4 D ca ad (WA ca ad s.heap.size)) (hr : meth.sig.returnType = none) (fin : Mem) (hk33 : ∀ (x1 : Nat) (x2 : Int32) (x3 : Int32) (x4 : Int32) (m : Mem) (H : Heap) (locs : List Loc) (ls : Array Slot), ly ca x1 = (0, 0) → IW D ca ad (WA ca ad s.heap.size) s m H locs → lv_has ls 6 [(0, .ref (ad 95)), (1, .ref (ad x1)), (2, .int x2), (3, .int x3), (4, .int x4)] → k33 x1 x2 x3 x4 m = some fin → W p l e rmX4_choose s mm args below meth c H locs 0 0 (MQ below (QV D ca ad s.heap.size fin) args s 0 0 (WA ca ad s.heap.size)) (F0 mm 33 ls [])) : ∀ (x1 : Nat) (x2 : Int32) (x3 : Int32) (x4 : Int32) (m : Mem) (H : Heap) (locs : List Loc) (ls : Array Slot), ly ca x1 = (0, 0) → IW D ca ad (WA ca ad s.heap.size) s m H locs → lv_has ls 6 [(0, .ref (ad 95)), (1, .ref (ad x1)), (2, .int x2), (3, .int x3), (4, .int x4)] → fX4_choose_115 N k33 x1 x2 x3 x4 m = some fin → W p l e rmX4_choose s mm args below meth c H locs 0 0 (MQ below (QV D ca ad s.heap.size fin) args s 0 0 (WA ca ad s.heap.size)) (F0 mm 115 ls []) := by
  have hx := X.1
  have hb := X.2.1
  intro x1 x2 x3 x4 m H locs ls hx1 hI hl hm
  have hm : (if x4 < 0 ∨ 6 ≤ x4.toNatClampNeg then none else (if (m.1 98 x4.toNatClampNeg) < 0 then (k33 x1 x2 x3 (x4 + (1 : Int32)) m) else (if x4 < 0 ∨ 6 ≤ x4.toNatClampNeg then none else (k33 x1 x2 (x3 ||| ((1 : Int32) <<< ((m.1 98 x4.toNatClampNeg) &&& 31))) (x4 + (1 : Int32)) m)))) = some fin := hm
  refine lv_aload_n hx hb dX4_choose_115 rfl (lv_at hl 0 rfl) ?_
  refine gR X hI fdX4_19 (la_95 hn) rf4_2 dX4_choose_116 ?_
  refine lv_iload hx hb dX4_choose_119 (lv_at hl 4 rfl) ?_
  obtain ⟨g3, hm⟩ := g_no hm
  refine aI X hI (la_98 hn) g3 dX4_choose_121 ?_
  refine lv_if_lt (tgt := 137) hx hb dX4_choose_122 (by decide) (fun c4 => ?_) (fun c4 => ?_)
  · have hm := g_t c4 hm
    refine lv_iinc (v := (x4 + (1 : Int32))) (lv' := [(4, .int (x4 + (1 : Int32))), (0, .ref (ad 95)), (1, .ref (ad x1)), (2, .int x2), (3, .int x3)]) hx hb dX4_choose_137 hl (k := 4) rfl rfl (by decide) rfl (fun ls hl => ?_)
    refine lv_goto (tgt := 33) hx hb dX4_choose_140 (by decide) ?_
    exact hk33 x1 x2 x3 (x4 + (1 : Int32)) m H locs ls hx1 hI (lv_sub hl [1, 2, 3, 4, 0] rfl) hm
  · have hm := g_f c4 hm
    refine lv_iload_n hx hb dX4_choose_125 rfl (lv_at hl 3 rfl) ?_
    refine lv_iconst (v := (1 : Int32)) hx hb dX4_choose_126 (by decide) ?_
    refine lv_aload_n hx hb dX4_choose_127 rfl (lv_at hl 0 rfl) ?_
    refine gR X hI fdX4_19 (la_95 hn) rf4_2 dX4_choose_128 ?_
    refine lv_iload hx hb dX4_choose_131 (lv_at hl 4 rfl) ?_
    obtain ⟨g5, hm⟩ := g_no hm
    refine aI X hI (la_98 hn) g5 dX4_choose_133 ?_
    refine lv_ishl hx hb dX4_choose_134 ?_
    refine lv_ior hx hb dX4_choose_135 ?_
    refine lv_istore_n (lv' := [(3, .int (x3 ||| ((1 : Int32) <<< ((m.1 98 x4.toNatClampNeg) &&& 31)))), (0, .ref (ad 95)), (1, .ref (ad x1)), (2, .int x2), (4, .int x4)]) hx hb dX4_choose_136 rfl hl (by decide) rfl (fun ls hl => ?_)
    refine lv_iinc (v := (x4 + (1 : Int32))) (lv' := [(4, .int (x4 + (1 : Int32))), (3, .int (x3 ||| ((1 : Int32) <<< ((m.1 98 x4.toNatClampNeg) &&& 31)))), (0, .ref (ad 95)), (1, .ref (ad x1)), (2, .int x2)]) hx hb dX4_choose_137 hl (k := 4) rfl rfl (by decide) rfl (fun ls hl => ?_)
    refine lv_goto (tgt := 33) hx hb dX4_choose_140 (by decide) ?_
    exact hk33 x1 x2 (x3 ||| ((1 : Int32) <<< ((m.1 98 x4.toNatClampNeg) &&& 31))) (x4 + (1 : Int32)) m H locs ls hx1 hI (lv_sub hl [2, 3, 4, 1, 0] rfl) hm
def fX4_choose_52 (N : Nat) (k115 : Nat → Int32 → Int32 → Int32 → Mem → Option Mem) : Nat → Nat → Int32 → Int32 → Int32 → Int32 → Mem → Option Mem
  | 0, _, _, _, _, _, _ => none
  | n + 1, x1, x2, x3, x4, x5, m => if (6 : Int32) ≤ x5 then (k115 x1 x2 x3 x4 m) else (if x2 ≤ x4 then (k115 x1 x2 x3 x4 m) else (if x4 < 0 ∨ 6 ≤ x4.toNatClampNeg then none else (if 0 ≤ (m.1 98 x4.toNatClampNeg) then (k115 x1 x2 x3 x4 m) else ((fX4_gainWith x1 x4 x3 x5 m).bind (fun q10 => if ((x4 * (64 : Int32)) + x3) < 0 ∨ 448 ≤ ((x4 * (64 : Int32)) + x3).toNatClampNeg then none else (if q10 = (m.1 96 ((x4 * (64 : Int32)) + x3).toNatClampNeg) then (if x4 < 0 ∨ 6 ≤ x4.toNatClampNeg then none else (fX4_choose_52 N k115 n x1 x2 x3 x4 (x5 + (1 : Int32)) (mI m 98 x4.toNatClampNeg x5))) else (fX4_choose_52 N k115 n x1 x2 x3 x4 (x5 + (1 : Int32)) m)))))))
set_option maxHeartbeats 4000000 in
set_option maxRecDepth 100000 in
theorem tX4_choose_52 (N : Nat) {l : Launch} {D : va_G} {ca : Nat → ClassId} {ad : Nat → Nat} {p : Program} {e : Env} {s : State} {mm : MethodId} {args : Array Value} {below : List Frame} {meth : Method} {c : Code} {k115 : Nat → Int32 → Int32 → Int32 → Mem → Option Mem} (hn : HNc ca) (X : CX p s mm args meth c cX4_choose 6 RX4 D ca ad (WA ca ad s.heap.size)) (hr : meth.sig.returnType = none) (fin : Mem) (hk115 : ∀ (x1 : Nat) (x2 : Int32) (x3 : Int32) (x4 : Int32) (m : Mem) (H : Heap) (locs : List Loc) (ls : Array Slot), ly ca x1 = (0, 0) → IW D ca ad (WA ca ad s.heap.size) s m H locs → lv_has ls 6 [(0, .ref (ad 95)), (1, .ref (ad x1)), (2, .int x2), (3, .int x3), (4, .int x4)] → k115 x1 x2 x3 x4 m = some fin → W p l e rmX4_choose s mm args below meth c H locs 0 0 (MQ below (QV D ca ad s.heap.size fin) args s 0 0 (WA ca ad s.heap.size)) (F0 mm 115 ls [])) : ∀ (n : Nat) (x1 : Nat) (x2 : Int32) (x3 : Int32) (x4 : Int32) (x5 : Int32) (m : Mem) (H : Heap) (locs : List Loc) (ls : Array Slot), ly ca x1 = (0, 0) → IW D ca ad (WA ca ad s.heap.size) s m H locs → lv_has ls 6 [(0, .ref (ad 95)), (1, .ref (ad x1)), (2, .int x2), (3, .int x3), (4, .int x4), (5, .int x5)] → fX4_choose_52 N k115 n x1 x2 x3 x4 x5 m = some fin → W p l e rmX4_choose s mm args below meth c H locs 0 0 (MQ below (QV D ca ad s.heap.size fin) args s 0 0 (WA ca ad s.heap.size)) (F0 mm 52 ls []) := by
  have hx := X.1
  have hb := X.2.1
  intro n
  induction n with
  | zero => intro x1 x2 x3 x4 x5 m H locs ls hx1 hI hl hm
            exact absurd hm (by intro q; cases q)
  | succ n ih =>
    intro x1 x2 x3 x4 x5 m H locs ls hx1 hI hl hm
    have hm : (if (6 : Int32) ≤ x5 then (k115 x1 x2 x3 x4 m) else (if x2 ≤ x4 then (k115 x1 x2 x3 x4 m) else (if x4 < 0 ∨ 6 ≤ x4.toNatClampNeg then none else (if 0 ≤ (m.1 98 x4.toNatClampNeg) then (k115 x1 x2 x3 x4 m) else ((fX4_gainWith x1 x4 x3 x5 m).bind (fun q10 => if ((x4 * (64 : Int32)) + x3) < 0 ∨ 448 ≤ ((x4 * (64 : Int32)) + x3).toNatClampNeg then none else (if q10 = (m.1 96 ((x4 * (64 : Int32)) + x3).toNatClampNeg) then (if x4 < 0 ∨ 6 ≤ x4.toNatClampNeg then none else (fX4_choose_52 N k115 n x1 x2 x3 x4 (x5 + (1 : Int32)) (mI m 98 x4.toNatClampNeg x5))) else (fX4_choose_52 N k115 n x1 x2 x3 x4 (x5 + (1 : Int32)) m)))))))) = some fin := hm
    refine lv_iload hx hb dX4_choose_52 (lv_at hl 5 rfl) ?_
    refine lv_bipush (v := (6 : Int32)) hx hb dX4_choose_54 (by decide) ?_
    refine lv_icmp_ge (tgt := 115) hx hb dX4_choose_56 (by decide) (fun c6 => ?_) (fun c6 => ?_)
    · have hm := g_t c6 hm
      exact hk115 x1 x2 x3 x4 m H locs ls hx1 hI (lv_sub hl [0, 1, 2, 3, 4] rfl) hm
    · have hm := g_f c6 hm
      refine lv_iload hx hb dX4_choose_59 (lv_at hl 4 rfl) ?_
      refine lv_iload_n hx hb dX4_choose_61 rfl (lv_at hl 2 rfl) ?_
      refine lv_icmp_ge (tgt := 115) hx hb dX4_choose_62 (by decide) (fun c7 => ?_) (fun c7 => ?_)
      · have hm := g_t c7 hm
        exact hk115 x1 x2 x3 x4 m H locs ls hx1 hI (lv_sub hl [0, 1, 2, 3, 4] rfl) hm
      · have hm := g_f c7 hm
        refine lv_aload_n hx hb dX4_choose_65 rfl (lv_at hl 0 rfl) ?_
        refine gR X hI fdX4_19 (la_95 hn) rf4_2 dX4_choose_66 ?_
        refine lv_iload hx hb dX4_choose_69 (lv_at hl 4 rfl) ?_
        obtain ⟨g8, hm⟩ := g_no hm
        refine aI X hI (la_98 hn) g8 dX4_choose_71 ?_
        refine lv_if_ge (tgt := 115) hx hb dX4_choose_72 (by decide) (fun c9 => ?_) (fun c9 => ?_)
        · have hm := g_t c9 hm
          exact hk115 x1 x2 x3 x4 m H locs ls hx1 hI (lv_sub hl [0, 1, 2, 3, 4] rfl) hm
        · have hm := g_f c9 hm
          refine lv_aload_n hx hb dX4_choose_75 rfl (lv_at hl 0 rfl) ?_
          refine lv_aload_n hx hb dX4_choose_76 rfl (lv_at hl 1 rfl) ?_
          refine lv_iload hx hb dX4_choose_77 (lv_at hl 4 rfl) ?_
          refine lv_iload_n hx hb dX4_choose_79 rfl (lv_at hl 3 rfl) ?_
          refine lv_iload hx hb dX4_choose_80 (lv_at hl 5 rfl) ?_
          obtain ⟨q10, h11, hm⟩ := g_b hm
          refine backI X hI (runV X hI (ctX4_gainWith x1 x4 x3 x5 hx1 hn _ _ h11 _) mdX4_55 (la_95 hn) rfl ⟨rfl, rfl⟩ ⟨Nat.le_of_ble_eq_true rfl, Nat.le_of_ble_eq_true rfl⟩ rfl hl.1 rfl (Nat.le_of_ble_eq_true rfl) dX4_choose_82) (fun H locs hI => ?_)
          refine lv_aload_n hx hb dX4_choose_85 rfl (lv_at hl 0 rfl) ?_
          refine gR X hI fdX4_11 (la_95 hn) rf4_0 dX4_choose_86 ?_
          refine lv_iload hx hb dX4_choose_89 (lv_at hl 4 rfl) ?_
          refine lv_bipush (v := (64 : Int32)) hx hb dX4_choose_91 (by decide) ?_
          refine lv_imul hx hb dX4_choose_93 ?_
          refine lv_iload_n hx hb dX4_choose_94 rfl (lv_at hl 3 rfl) ?_
          refine lv_iadd hx hb dX4_choose_95 ?_
          obtain ⟨g12, hm⟩ := g_no hm
          refine aI X hI (la_96 hn) g12 dX4_choose_96 ?_
          refine lv_icmp_ne (tgt := 109) hx hb dX4_choose_97 (by decide) (fun c13 => ?_) (fun c13 => ?_)
          · have hm := g_f c13 hm
            refine lv_iinc (v := (x5 + (1 : Int32))) (lv' := [(5, .int (x5 + (1 : Int32))), (0, .ref (ad 95)), (1, .ref (ad x1)), (2, .int x2), (3, .int x3), (4, .int x4)]) hx hb dX4_choose_109 hl (k := 5) rfl rfl (by decide) rfl (fun ls hl => ?_)
            refine lv_goto (tgt := 52) hx hb dX4_choose_112 (by decide) ?_
            exact ih x1 x2 x3 x4 (x5 + (1 : Int32)) m H locs ls hx1 hI (lv_sub hl [1, 2, 3, 4, 5, 0] rfl) hm
          · have hm := g_t c13 hm
            refine lv_aload_n hx hb dX4_choose_100 rfl (lv_at hl 0 rfl) ?_
            refine gR X hI fdX4_19 (la_95 hn) rf4_2 dX4_choose_101 ?_
            refine lv_iload hx hb dX4_choose_104 (lv_at hl 4 rfl) ?_
            refine lv_iload hx hb dX4_choose_106 (lv_at hl 5 rfl) ?_
            obtain ⟨g14, hm⟩ := g_no hm
            refine sI X hI (la_98 hn) g14 dX4_choose_108 (fun H locs hI => ?_)
            refine lv_iinc (v := (x5 + (1 : Int32))) (lv' := [(5, .int (x5 + (1 : Int32))), (0, .ref (ad 95)), (1, .ref (ad x1)), (2, .int x2), (3, .int x3), (4, .int x4)]) hx hb dX4_choose_109 hl (k := 5) rfl rfl (by decide) rfl (fun ls hl => ?_)
            refine lv_goto (tgt := 52) hx hb dX4_choose_112 (by decide) ?_
            exact ih x1 x2 x3 x4 (x5 + (1 : Int32)) (mI m 98 x4.toNatClampNeg x5) H locs ls hx1 hI (lv_sub hl [1, 2, 3, 4, 5, 0] rfl) hm
def fX4_choose_33 (N : Nat) : Nat → Nat → Int32 → Int32 → Int32 → Mem → Option Mem
  | 0, _, _, _, _, _ => none
  | n + 1, x1, x2, x3, x4, m => if (6 : Int32) ≤ x4 then (some m) else (if x4 < 0 ∨ 6 ≤ x4.toNatClampNeg then none else (fX4_choose_52 N (fX4_choose_115 N (fun x1 x2 x3 x4 m => fX4_choose_33 N n x1 x2 x3 x4 m)) N x1 x2 x3 x4 (0 : Int32) (mI m 98 x4.toNatClampNeg (-2 : Int32))))
set_option maxHeartbeats 4000000 in
set_option maxRecDepth 100000 in
theorem tX4_choose_33 (N : Nat) {l : Launch} {D : va_G} {ca : Nat → ClassId} {ad : Nat → Nat} {p : Program} {e : Env} {s : State} {mm : MethodId} {args : Array Value} {below : List Frame} {meth : Method} {c : Code}  (hn : HNc ca) (X : CX p s mm args meth c cX4_choose 6 RX4 D ca ad (WA ca ad s.heap.size)) (hr : meth.sig.returnType = none) (fin : Mem)  : ∀ (n : Nat) (x1 : Nat) (x2 : Int32) (x3 : Int32) (x4 : Int32) (m : Mem) (H : Heap) (locs : List Loc) (ls : Array Slot), ly ca x1 = (0, 0) → IW D ca ad (WA ca ad s.heap.size) s m H locs → lv_has ls 6 [(0, .ref (ad 95)), (1, .ref (ad x1)), (2, .int x2), (3, .int x3), (4, .int x4)] → fX4_choose_33 N n x1 x2 x3 x4 m = some fin → W p l e rmX4_choose s mm args below meth c H locs 0 0 (MQ below (QV D ca ad s.heap.size fin) args s 0 0 (WA ca ad s.heap.size)) (F0 mm 33 ls []) := by
  have hx := X.1
  have hb := X.2.1
  intro n
  induction n with
  | zero => intro x1 x2 x3 x4 m H locs ls hx1 hI hl hm
            exact absurd hm (by intro q; cases q)
  | succ n ih =>
    intro x1 x2 x3 x4 m H locs ls hx1 hI hl hm
    have hm : (if (6 : Int32) ≤ x4 then (some m) else (if x4 < 0 ∨ 6 ≤ x4.toNatClampNeg then none else (fX4_choose_52 N (fX4_choose_115 N (fun x1 x2 x3 x4 m => fX4_choose_33 N n x1 x2 x3 x4 m)) N x1 x2 x3 x4 (0 : Int32) (mI m 98 x4.toNatClampNeg (-2 : Int32))))) = some fin := hm
    refine lv_iload hx hb dX4_choose_33 (lv_at hl 4 rfl) ?_
    refine lv_bipush (v := (6 : Int32)) hx hb dX4_choose_35 (by decide) ?_
    refine lv_icmp_ge (tgt := 143) hx hb dX4_choose_37 (by decide) (fun c1 => ?_) (fun c1 => ?_)
    · have hm := g_t c1 hm
      exact rV X hI hr (g_1 hm) dX4_choose_143
    · have hm := g_f c1 hm
      refine lv_aload_n hx hb dX4_choose_40 rfl (lv_at hl 0 rfl) ?_
      refine gR X hI fdX4_19 (la_95 hn) rf4_2 dX4_choose_41 ?_
      refine lv_iload hx hb dX4_choose_44 (lv_at hl 4 rfl) ?_
      refine lv_bipush (v := (-2 : Int32)) hx hb dX4_choose_46 (by decide) ?_
      obtain ⟨g2, hm⟩ := g_no hm
      refine sI X hI (la_98 hn) g2 dX4_choose_48 (fun H locs hI => ?_)
      refine lv_iconst (v := (0 : Int32)) hx hb dX4_choose_49 (by decide) ?_
      refine lv_istore (lv' := [(5, .int (0 : Int32)), (0, .ref (ad 95)), (1, .ref (ad x1)), (2, .int x2), (3, .int x3), (4, .int x4)]) hx hb dX4_choose_50 hl (by decide) rfl (fun ls hl => ?_)
      exact tX4_choose_52 N hn X hr fin (tX4_choose_115 N hn X hr fin ih) N x1 x2 x3 x4 (0 : Int32) (mI m 98 x4.toNatClampNeg (-2 : Int32)) H locs ls hx1 hI (lv_sub hl [1, 2, 3, 4, 5, 0] rfl) hm
def fX4_choose (N : Nat) (x1 : Nat) (x2 : Int32) (m : Mem) : Option Mem := fX4_choose_33 N N x1 x2 (0 : Int32) (0 : Int32) (mI (mI m 95 3 ((m.1 96 0) / (10000 : Int32))) 95 4 (jrem ((mI m 95 3 ((m.1 96 0) / (10000 : Int32))).1 96 0) (10000 : Int32)))
set_option maxHeartbeats 4000000 in
set_option maxRecDepth 100000 in
theorem ctX4_choose {l : Launch} {D : va_G} {ca : Nat → ClassId} {ad : Nat → Nat} (N : Nat) (x1 : Nat) (x2 : Int32) (hx1 : ly ca x1 = (0, 0)) (hn : HNc ca) (m : Mem) (fin : Mem) (hm : fX4_choose N x1 x2 m = some fin) : CV l D ca ad yX4_choose cwX4_choose rmX4_choose [.ref (ad 95), .ref (ad x1), .int x2] m fin := by
  refine start (by decide) (Nat.le_of_ble_eq_true rfl) ?_
  intro p e s mm args below meth c H locs ls X hI hr hl
  have X : CX p s mm args meth c cX4_choose 6 RX4 D ca ad (WA ca ad s.heap.size) := X
  have hx := X.1
  have hb := X.2.1
  have hl : lv_has ls 6 [(0, .ref (ad 95)), (1, .ref (ad x1)), (2, .int x2)] := hl
  have hm : (fX4_choose_33 N N x1 x2 (0 : Int32) (0 : Int32) (mI (mI m 95 3 ((m.1 96 0) / (10000 : Int32))) 95 4 (jrem ((mI m 95 3 ((m.1 96 0) / (10000 : Int32))).1 96 0) (10000 : Int32)))) = some fin := hm
  refine lv_iconst (v := (0 : Int32)) hx hb dX4_choose_0 (by decide) ?_
  refine lv_istore_n (lv' := [(3, .int (0 : Int32)), (0, .ref (ad 95)), (1, .ref (ad x1)), (2, .int x2)]) hx hb dX4_choose_1 rfl hl (by decide) rfl (fun ls hl => ?_)
  refine lv_aload_n hx hb dX4_choose_2 rfl (lv_at hl 1 rfl) ?_
  refine lv_aload_n hx hb dX4_choose_3 rfl (lv_at hl 1 rfl) ?_
  refine gR X hI fdX4_11 (la_95 hn) rf4_0 dX4_choose_4 ?_
  refine lv_iconst (v := (0 : Int32)) hx hb dX4_choose_7 (by decide) ?_
  refine aIc (j := 0) X hI (la_96 hn) (by decide) (by decide) dX4_choose_8 ?_
  refine lv_sipush (v := (10000 : Int32)) hx hb dX4_choose_9 (by decide) ?_
  refine lv_idiv hx hb dX4_choose_12 (by decide) ?_
  refine pI X hI fpX4_67 (la_95 hn) dX4_choose_13 (fun H locs hI => ?_)
  refine lv_aload_n hx hb dX4_choose_16 rfl (lv_at hl 1 rfl) ?_
  refine lv_aload_n hx hb dX4_choose_17 rfl (lv_at hl 1 rfl) ?_
  refine gR X hI fdX4_11 (la_95 hn) rf4_0 dX4_choose_18 ?_
  refine lv_iconst (v := (0 : Int32)) hx hb dX4_choose_21 (by decide) ?_
  refine aIc (j := 0) X hI (la_96 hn) (by decide) (by decide) dX4_choose_22 ?_
  refine lv_sipush (v := (10000 : Int32)) hx hb dX4_choose_23 (by decide) ?_
  refine kRem hx hb dX4_choose_26 (by decide) ?_
  refine pI X hI fpX4_70 (la_95 hn) dX4_choose_27 (fun H locs hI => ?_)
  refine lv_iconst (v := (0 : Int32)) hx hb dX4_choose_30 (by decide) ?_
  refine lv_istore (lv' := [(4, .int (0 : Int32)), (3, .int (0 : Int32)), (0, .ref (ad 95)), (1, .ref (ad x1)), (2, .int x2)]) hx hb dX4_choose_31 hl (by decide) rfl (fun ls hl => ?_)
  exact tX4_choose_33 N hn X hr fin  N x1 x2 (0 : Int32) (0 : Int32) (mI (mI m 95 3 ((m.1 96 0) / (10000 : Int32))) 95 4 (jrem ((mI m 95 3 ((m.1 96 0) / (10000 : Int32))).1 96 0) (10000 : Int32))) H locs ls hx1 hI (lv_sub hl [2, 3, 4, 1, 0] rfl) hm
abbrev rmX4_find : Room := { frames := 4, cells := 0, slots := 0, locals := 105 }
def fX4_find_165 (N : Nat) (k122 : Nat → Int32 → Int32 → Mem → Option Mem) (x2 : Nat) (x3 : Int32) (x5 : Int32) (m : Mem) : Option Mem := k122 x2 x3 (x5 + (-1 : Int32)) m
set_option maxHeartbeats 4000000 in
set_option maxRecDepth 100000 in
theorem tX4_find_165 (N : Nat) {l : Launch} {D : va_G} {ca : Nat → ClassId} {ad : Nat → Nat} {p : Program} {e : Env} {s : State} {mm : MethodId} {args : Array Value} {below : List Frame} {meth : Method} {c : Code} {k122 : Nat → Int32 → Int32 → Mem → Option Mem} (hn : HNc ca) (X : CX p s mm args meth c cX4_find 7 RX4 D ca ad (WA ca ad s.heap.size)) (hr : meth.sig.returnType = none) (fin : Mem) (hk122 : ∀ (x2 : Nat) (x3 : Int32) (x5 : Int32) (m : Mem) (H : Heap) (locs : List Loc) (ls : Array Slot), ly ca x2 = (0, 0) → IW D ca ad (WA ca ad s.heap.size) s m H locs → lv_has ls 7 [(0, .ref (ad 95)), (2, .ref (ad x2)), (3, .int x3), (5, .int x5)] → k122 x2 x3 x5 m = some fin → W p l e rmX4_find s mm args below meth c H locs 0 0 (MQ below (QV D ca ad s.heap.size fin) args s 0 0 (WA ca ad s.heap.size)) (F0 mm 122 ls [])) : ∀ (x2 : Nat) (x3 : Int32) (x5 : Int32) (m : Mem) (H : Heap) (locs : List Loc) (ls : Array Slot), ly ca x2 = (0, 0) → IW D ca ad (WA ca ad s.heap.size) s m H locs → lv_has ls 7 [(0, .ref (ad 95)), (2, .ref (ad x2)), (3, .int x3), (5, .int x5)] → fX4_find_165 N k122 x2 x3 x5 m = some fin → W p l e rmX4_find s mm args below meth c H locs 0 0 (MQ below (QV D ca ad s.heap.size fin) args s 0 0 (WA ca ad s.heap.size)) (F0 mm 165 ls []) := by
  have hx := X.1
  have hb := X.2.1
  intro x2 x3 x5 m H locs ls hx2 hI hl hm
  have hm : (k122 x2 x3 (x5 + (-1 : Int32)) m) = some fin := hm
  refine lv_iinc (v := (x5 + (-1 : Int32))) (lv' := [(5, .int (x5 + (-1 : Int32))), (0, .ref (ad 95)), (2, .ref (ad x2)), (3, .int x3)]) hx hb dX4_find_165 hl (k := 3) rfl rfl (by decide) rfl (fun ls hl => ?_)
  refine lv_goto (tgt := 122) hx hb dX4_find_168 (by decide) ?_
  exact hk122 x2 x3 (x5 + (-1 : Int32)) m H locs ls hx2 hI (lv_sub hl [1, 2, 3, 0] rfl) hm
def fX4_find_130 (N : Nat) (k165 : Nat → Int32 → Int32 → Mem → Option Mem) : Nat → Nat → Int32 → Int32 → Int32 → Mem → Option Mem
  | 0, _, _, _, _, _ => none
  | n + 1, x2, x3, x5, x6, m => if (64 : Int32) ≤ x6 then (k165 x2 x3 x5 m) else ((fX4_bestOf N x2 x5 x6 m).bind (fun q5 => if ((x5 * (64 : Int32)) + x6) < 0 ∨ 448 ≤ ((x5 * (64 : Int32)) + x6).toNatClampNeg then none else (fX4_find_130 N k165 n x2 x3 x5 (x6 + (1 : Int32)) (mI m 96 ((x5 * (64 : Int32)) + x6).toNatClampNeg q5))))
set_option maxHeartbeats 4000000 in
set_option maxRecDepth 100000 in
theorem tX4_find_130 (N : Nat) {l : Launch} {D : va_G} {ca : Nat → ClassId} {ad : Nat → Nat} {p : Program} {e : Env} {s : State} {mm : MethodId} {args : Array Value} {below : List Frame} {meth : Method} {c : Code} {k165 : Nat → Int32 → Int32 → Mem → Option Mem} (hn : HNc ca) (X : CX p s mm args meth c cX4_find 7 RX4 D ca ad (WA ca ad s.heap.size)) (hr : meth.sig.returnType = none) (fin : Mem) (hk165 : ∀ (x2 : Nat) (x3 : Int32) (x5 : Int32) (m : Mem) (H : Heap) (locs : List Loc) (ls : Array Slot), ly ca x2 = (0, 0) → IW D ca ad (WA ca ad s.heap.size) s m H locs → lv_has ls 7 [(0, .ref (ad 95)), (2, .ref (ad x2)), (3, .int x3), (5, .int x5)] → k165 x2 x3 x5 m = some fin → W p l e rmX4_find s mm args below meth c H locs 0 0 (MQ below (QV D ca ad s.heap.size fin) args s 0 0 (WA ca ad s.heap.size)) (F0 mm 165 ls [])) : ∀ (n : Nat) (x2 : Nat) (x3 : Int32) (x5 : Int32) (x6 : Int32) (m : Mem) (H : Heap) (locs : List Loc) (ls : Array Slot), ly ca x2 = (0, 0) → IW D ca ad (WA ca ad s.heap.size) s m H locs → lv_has ls 7 [(0, .ref (ad 95)), (2, .ref (ad x2)), (3, .int x3), (5, .int x5), (6, .int x6)] → fX4_find_130 N k165 n x2 x3 x5 x6 m = some fin → W p l e rmX4_find s mm args below meth c H locs 0 0 (MQ below (QV D ca ad s.heap.size fin) args s 0 0 (WA ca ad s.heap.size)) (F0 mm 130 ls []) := by
  have hx := X.1
  have hb := X.2.1
  intro n
  induction n with
  | zero => intro x2 x3 x5 x6 m H locs ls hx2 hI hl hm
            exact absurd hm (by intro q; cases q)
  | succ n ih =>
    intro x2 x3 x5 x6 m H locs ls hx2 hI hl hm
    have hm : (if (64 : Int32) ≤ x6 then (k165 x2 x3 x5 m) else ((fX4_bestOf N x2 x5 x6 m).bind (fun q5 => if ((x5 * (64 : Int32)) + x6) < 0 ∨ 448 ≤ ((x5 * (64 : Int32)) + x6).toNatClampNeg then none else (fX4_find_130 N k165 n x2 x3 x5 (x6 + (1 : Int32)) (mI m 96 ((x5 * (64 : Int32)) + x6).toNatClampNeg q5))))) = some fin := hm
    refine lv_iload hx hb dX4_find_130 (lv_at hl 4 rfl) ?_
    refine lv_bipush (v := (64 : Int32)) hx hb dX4_find_132 (by decide) ?_
    refine lv_icmp_ge (tgt := 165) hx hb dX4_find_134 (by decide) (fun c4 => ?_) (fun c4 => ?_)
    · have hm := g_t c4 hm
      exact hk165 x2 x3 x5 m H locs ls hx2 hI (lv_sub hl [0, 1, 2, 3] rfl) hm
    · have hm := g_f c4 hm
      refine lv_aload_n hx hb dX4_find_137 rfl (lv_at hl 0 rfl) ?_
      refine gR X hI fdX4_11 (la_95 hn) rf4_0 dX4_find_138 ?_
      refine lv_iload hx hb dX4_find_141 (lv_at hl 3 rfl) ?_
      refine lv_bipush (v := (64 : Int32)) hx hb dX4_find_143 (by decide) ?_
      refine lv_imul hx hb dX4_find_145 ?_
      refine lv_iload hx hb dX4_find_146 (lv_at hl 4 rfl) ?_
      refine lv_iadd hx hb dX4_find_148 ?_
      refine lv_aload_n hx hb dX4_find_149 rfl (lv_at hl 0 rfl) ?_
      refine lv_aload_n hx hb dX4_find_150 rfl (lv_at hl 1 rfl) ?_
      refine lv_iload hx hb dX4_find_151 (lv_at hl 3 rfl) ?_
      refine lv_iload hx hb dX4_find_153 (lv_at hl 4 rfl) ?_
      obtain ⟨q5, h6, hm⟩ := g_b hm
      refine backI X hI (runV X hI (ctX4_bestOf N x2 x5 x6 hx2 hn _ _ h6 _) mdX4_47 (la_95 hn) rfl ⟨rfl, rfl⟩ ⟨Nat.le_of_ble_eq_true rfl, Nat.le_of_ble_eq_true rfl⟩ rfl hl.1 rfl (Nat.le_of_ble_eq_true rfl) dX4_find_155) (fun H locs hI => ?_)
      obtain ⟨g7, hm⟩ := g_no hm
      refine sI X hI (la_96 hn) g7 dX4_find_158 (fun H locs hI => ?_)
      refine lv_iinc (v := (x6 + (1 : Int32))) (lv' := [(6, .int (x6 + (1 : Int32))), (0, .ref (ad 95)), (2, .ref (ad x2)), (3, .int x3), (5, .int x5)]) hx hb dX4_find_159 hl (k := 4) rfl rfl (by decide) rfl (fun ls hl => ?_)
      refine lv_goto (tgt := 130) hx hb dX4_find_162 (by decide) ?_
      exact ih x2 x3 x5 (x6 + (1 : Int32)) (mI m 96 ((x5 * (64 : Int32)) + x6).toNatClampNeg q5) H locs ls hx2 hI (lv_sub hl [1, 2, 3, 4, 0] rfl) hm
def fX4_find_122 (N : Nat) : Nat → Nat → Int32 → Int32 → Mem → Option Mem
  | 0, _, _, _, _ => none
  | n + 1, x2, x3, x5, m => if x5 < 0 then ((fX4_choose N x2 x3 m).bind (fun q2 => some q2)) else (fX4_find_130 N (fX4_find_165 N (fun x2 x3 x5 m => fX4_find_122 N n x2 x3 x5 m)) N x2 x3 x5 (0 : Int32) m)
set_option maxHeartbeats 4000000 in
set_option maxRecDepth 100000 in
theorem tX4_find_122 (N : Nat) {l : Launch} {D : va_G} {ca : Nat → ClassId} {ad : Nat → Nat} {p : Program} {e : Env} {s : State} {mm : MethodId} {args : Array Value} {below : List Frame} {meth : Method} {c : Code}  (hn : HNc ca) (X : CX p s mm args meth c cX4_find 7 RX4 D ca ad (WA ca ad s.heap.size)) (hr : meth.sig.returnType = none) (fin : Mem)  : ∀ (n : Nat) (x2 : Nat) (x3 : Int32) (x5 : Int32) (m : Mem) (H : Heap) (locs : List Loc) (ls : Array Slot), ly ca x2 = (0, 0) → IW D ca ad (WA ca ad s.heap.size) s m H locs → lv_has ls 7 [(0, .ref (ad 95)), (2, .ref (ad x2)), (3, .int x3), (5, .int x5)] → fX4_find_122 N n x2 x3 x5 m = some fin → W p l e rmX4_find s mm args below meth c H locs 0 0 (MQ below (QV D ca ad s.heap.size fin) args s 0 0 (WA ca ad s.heap.size)) (F0 mm 122 ls []) := by
  have hx := X.1
  have hb := X.2.1
  intro n
  induction n with
  | zero => intro x2 x3 x5 m H locs ls hx2 hI hl hm
            exact absurd hm (by intro q; cases q)
  | succ n ih =>
    intro x2 x3 x5 m H locs ls hx2 hI hl hm
    have hm : (if x5 < 0 then ((fX4_choose N x2 x3 m).bind (fun q2 => some q2)) else (fX4_find_130 N (fX4_find_165 N (fun x2 x3 x5 m => fX4_find_122 N n x2 x3 x5 m)) N x2 x3 x5 (0 : Int32) m)) = some fin := hm
    refine lv_iload hx hb dX4_find_122 (lv_at hl 3 rfl) ?_
    refine lv_if_lt (tgt := 171) hx hb dX4_find_124 (by decide) (fun c1 => ?_) (fun c1 => ?_)
    · have hm := g_t c1 hm
      refine lv_aload_n hx hb dX4_find_171 rfl (lv_at hl 0 rfl) ?_
      refine lv_aload_n hx hb dX4_find_172 rfl (lv_at hl 1 rfl) ?_
      refine lv_iload_n hx hb dX4_find_173 rfl (lv_at hl 2 rfl) ?_
      obtain ⟨q2, h3, hm⟩ := g_b hm
      refine backV X hI (runV X hI (ctX4_choose N x2 x3 hx2 hn _ _ h3 _) mdX4_51 (la_95 hn) rfl ⟨rfl, rfl⟩ ⟨Nat.le_of_ble_eq_true rfl, Nat.le_of_ble_eq_true rfl⟩ rfl hl.1 rfl (Nat.le_of_ble_eq_true rfl) dX4_find_174) (fun H locs hI => ?_)
      exact rV X hI hr (g_1 hm) dX4_find_177
    · have hm := g_f c1 hm
      refine lv_iconst (v := (0 : Int32)) hx hb dX4_find_127 (by decide) ?_
      refine lv_istore (lv' := [(6, .int (0 : Int32)), (0, .ref (ad 95)), (2, .ref (ad x2)), (3, .int x3), (5, .int x5)]) hx hb dX4_find_128 hl (by decide) rfl (fun ls hl => ?_)
      exact tX4_find_130 N hn X hr fin (tX4_find_165 N hn X hr fin ih) N x2 x3 x5 (0 : Int32) m H locs ls hx2 hI (lv_sub hl [1, 2, 3, 4, 0] rfl) hm
def fX4_find_117 (N : Nat) (x2 : Nat) (x3 : Int32) (m : Mem) : Option Mem := fX4_find_122 N N x2 x3 (x3 - (1 : Int32)) m
set_option maxHeartbeats 4000000 in
set_option maxRecDepth 100000 in
theorem tX4_find_117 (N : Nat) {l : Launch} {D : va_G} {ca : Nat → ClassId} {ad : Nat → Nat} {p : Program} {e : Env} {s : State} {mm : MethodId} {args : Array Value} {below : List Frame} {meth : Method} {c : Code}  (hn : HNc ca) (X : CX p s mm args meth c cX4_find 7 RX4 D ca ad (WA ca ad s.heap.size)) (hr : meth.sig.returnType = none) (fin : Mem)  : ∀ (x2 : Nat) (x3 : Int32) (m : Mem) (H : Heap) (locs : List Loc) (ls : Array Slot), ly ca x2 = (0, 0) → IW D ca ad (WA ca ad s.heap.size) s m H locs → lv_has ls 7 [(0, .ref (ad 95)), (2, .ref (ad x2)), (3, .int x3)] → fX4_find_117 N x2 x3 m = some fin → W p l e rmX4_find s mm args below meth c H locs 0 0 (MQ below (QV D ca ad s.heap.size fin) args s 0 0 (WA ca ad s.heap.size)) (F0 mm 117 ls []) := by
  have hx := X.1
  have hb := X.2.1
  intro x2 x3 m H locs ls hx2 hI hl hm
  have hm : (fX4_find_122 N N x2 x3 (x3 - (1 : Int32)) m) = some fin := hm
  refine lv_iload_n hx hb dX4_find_117 rfl (lv_at hl 2 rfl) ?_
  refine lv_iconst (v := (1 : Int32)) hx hb dX4_find_118 (by decide) ?_
  refine lv_isub hx hb dX4_find_119 ?_
  refine lv_istore (lv' := [(5, .int (x3 - (1 : Int32))), (0, .ref (ad 95)), (2, .ref (ad x2)), (3, .int x3)]) hx hb dX4_find_120 hl (by decide) rfl (fun ls hl => ?_)
  exact tX4_find_122 N hn X hr fin  N x2 x3 (x3 - (1 : Int32)) m H locs ls hx2 hI (lv_sub hl [1, 2, 3, 0] rfl) hm
def fX4_find_91 (N : Nat) (k117 : Nat → Int32 → Mem → Option Mem) : Nat → Nat → Int32 → Int32 → Mem → Option Mem
  | 0, _, _, _, _ => none
  | n + 1, x2, x3, x5, m => if (64 : Int32) ≤ x5 then (k117 x2 x3 m) else (if ((x3 * (64 : Int32)) + x5) < 0 ∨ 448 ≤ ((x3 * (64 : Int32)) + x5).toNatClampNeg then none else (fX4_find_91 N k117 n x2 x3 (x5 + (1 : Int32)) (mI m 96 ((x3 * (64 : Int32)) + x5).toNatClampNeg (0 : Int32))))
set_option maxHeartbeats 4000000 in
set_option maxRecDepth 100000 in
theorem tX4_find_91 (N : Nat) {l : Launch} {D : va_G} {ca : Nat → ClassId} {ad : Nat → Nat} {p : Program} {e : Env} {s : State} {mm : MethodId} {args : Array Value} {below : List Frame} {meth : Method} {c : Code} {k117 : Nat → Int32 → Mem → Option Mem} (hn : HNc ca) (X : CX p s mm args meth c cX4_find 7 RX4 D ca ad (WA ca ad s.heap.size)) (hr : meth.sig.returnType = none) (fin : Mem) (hk117 : ∀ (x2 : Nat) (x3 : Int32) (m : Mem) (H : Heap) (locs : List Loc) (ls : Array Slot), ly ca x2 = (0, 0) → IW D ca ad (WA ca ad s.heap.size) s m H locs → lv_has ls 7 [(0, .ref (ad 95)), (2, .ref (ad x2)), (3, .int x3)] → k117 x2 x3 m = some fin → W p l e rmX4_find s mm args below meth c H locs 0 0 (MQ below (QV D ca ad s.heap.size fin) args s 0 0 (WA ca ad s.heap.size)) (F0 mm 117 ls [])) : ∀ (n : Nat) (x2 : Nat) (x3 : Int32) (x5 : Int32) (m : Mem) (H : Heap) (locs : List Loc) (ls : Array Slot), ly ca x2 = (0, 0) → IW D ca ad (WA ca ad s.heap.size) s m H locs → lv_has ls 7 [(0, .ref (ad 95)), (2, .ref (ad x2)), (3, .int x3), (5, .int x5)] → fX4_find_91 N k117 n x2 x3 x5 m = some fin → W p l e rmX4_find s mm args below meth c H locs 0 0 (MQ below (QV D ca ad s.heap.size fin) args s 0 0 (WA ca ad s.heap.size)) (F0 mm 91 ls []) := by
  have hx := X.1
  have hb := X.2.1
  intro n
  induction n with
  | zero => intro x2 x3 x5 m H locs ls hx2 hI hl hm
            exact absurd hm (by intro q; cases q)
  | succ n ih =>
    intro x2 x3 x5 m H locs ls hx2 hI hl hm
    have hm : (if (64 : Int32) ≤ x5 then (k117 x2 x3 m) else (if ((x3 * (64 : Int32)) + x5) < 0 ∨ 448 ≤ ((x3 * (64 : Int32)) + x5).toNatClampNeg then none else (fX4_find_91 N k117 n x2 x3 (x5 + (1 : Int32)) (mI m 96 ((x3 * (64 : Int32)) + x5).toNatClampNeg (0 : Int32))))) = some fin := hm
    refine lv_iload hx hb dX4_find_91 (lv_at hl 3 rfl) ?_
    refine lv_bipush (v := (64 : Int32)) hx hb dX4_find_93 (by decide) ?_
    refine lv_icmp_ge (tgt := 117) hx hb dX4_find_95 (by decide) (fun c8 => ?_) (fun c8 => ?_)
    · have hm := g_t c8 hm
      exact hk117 x2 x3 m H locs ls hx2 hI (lv_sub hl [0, 1, 2] rfl) hm
    · have hm := g_f c8 hm
      refine lv_aload_n hx hb dX4_find_98 rfl (lv_at hl 0 rfl) ?_
      refine gR X hI fdX4_11 (la_95 hn) rf4_0 dX4_find_99 ?_
      refine lv_iload_n hx hb dX4_find_102 rfl (lv_at hl 2 rfl) ?_
      refine lv_bipush (v := (64 : Int32)) hx hb dX4_find_103 (by decide) ?_
      refine lv_imul hx hb dX4_find_105 ?_
      refine lv_iload hx hb dX4_find_106 (lv_at hl 3 rfl) ?_
      refine lv_iadd hx hb dX4_find_108 ?_
      refine lv_iconst (v := (0 : Int32)) hx hb dX4_find_109 (by decide) ?_
      obtain ⟨g9, hm⟩ := g_no hm
      refine sI X hI (la_96 hn) g9 dX4_find_110 (fun H locs hI => ?_)
      refine lv_iinc (v := (x5 + (1 : Int32))) (lv' := [(5, .int (x5 + (1 : Int32))), (0, .ref (ad 95)), (2, .ref (ad x2)), (3, .int x3)]) hx hb dX4_find_111 hl (k := 3) rfl rfl (by decide) rfl (fun ls hl => ?_)
      refine lv_goto (tgt := 91) hx hb dX4_find_114 (by decide) ?_
      exact ih x2 x3 (x5 + (1 : Int32)) (mI m 96 ((x3 * (64 : Int32)) + x5).toNatClampNeg (0 : Int32)) H locs ls hx2 hI (lv_sub hl [1, 2, 3, 0] rfl) hm
def fX4_find_88 (N : Nat) (x2 : Nat) (x3 : Int32) (m : Mem) : Option Mem := fX4_find_91 N (fX4_find_117 N) N x2 x3 (0 : Int32) m
set_option maxHeartbeats 4000000 in
set_option maxRecDepth 100000 in
theorem tX4_find_88 (N : Nat) {l : Launch} {D : va_G} {ca : Nat → ClassId} {ad : Nat → Nat} {p : Program} {e : Env} {s : State} {mm : MethodId} {args : Array Value} {below : List Frame} {meth : Method} {c : Code}  (hn : HNc ca) (X : CX p s mm args meth c cX4_find 7 RX4 D ca ad (WA ca ad s.heap.size)) (hr : meth.sig.returnType = none) (fin : Mem)  : ∀ (x2 : Nat) (x3 : Int32) (m : Mem) (H : Heap) (locs : List Loc) (ls : Array Slot), ly ca x2 = (0, 0) → IW D ca ad (WA ca ad s.heap.size) s m H locs → lv_has ls 7 [(0, .ref (ad 95)), (2, .ref (ad x2)), (3, .int x3)] → fX4_find_88 N x2 x3 m = some fin → W p l e rmX4_find s mm args below meth c H locs 0 0 (MQ below (QV D ca ad s.heap.size fin) args s 0 0 (WA ca ad s.heap.size)) (F0 mm 88 ls []) := by
  have hx := X.1
  have hb := X.2.1
  intro x2 x3 m H locs ls hx2 hI hl hm
  have hm : (fX4_find_91 N (fX4_find_117 N) N x2 x3 (0 : Int32) m) = some fin := hm
  refine lv_iconst (v := (0 : Int32)) hx hb dX4_find_88 (by decide) ?_
  refine lv_istore (lv' := [(5, .int (0 : Int32)), (0, .ref (ad 95)), (2, .ref (ad x2)), (3, .int x3)]) hx hb dX4_find_89 hl (by decide) rfl (fun ls hl => ?_)
  exact tX4_find_91 N hn X hr fin (tX4_find_117 N hn X hr fin ) N x2 x3 (0 : Int32) m H locs ls hx2 hI (lv_sub hl [1, 2, 3, 0] rfl) hm
def fX4_find_30 (N : Nat) (k88 : Nat → Int32 → Mem → Option Mem) : Nat → Nat → Nat → Int32 → Int32 → Int32 → Mem → Option Mem
  | 0, _, _, _, _, _, _ => none
  | n + 1, x1, x2, x3, x4, x5, m => if (Int32.ofNat 36) ≤ x5 then (k88 x2 x3 m) else (if x4 ≤ (jrem x5 (6 : Int32)) then (if x5 < 0 ∨ 36 ≤ x5.toNatClampNeg then none else (fX4_find_30 N k88 n x1 x2 x3 x4 (x5 + (1 : Int32)) (mI m 97 x5.toNatClampNeg (vp_nar .boolean (0 : Int32))))) else ((fX6_easeIn N x1 x2 (x5 / (6 : Int32)) (jrem x5 (6 : Int32)) (0 : Int32) m).bind (fun q13 => if q13.1 = 0 then (if x5 < 0 ∨ 36 ≤ x5.toNatClampNeg then none else (fX4_find_30 N k88 n x1 x2 x3 x4 (x5 + (1 : Int32)) (mI q13.2 97 x5.toNatClampNeg (vp_nar .boolean (0 : Int32))))) else (if x5 < 0 ∨ 36 ≤ x5.toNatClampNeg then none else (fX4_find_30 N k88 n x1 x2 x3 x4 (x5 + (1 : Int32)) (mI q13.2 97 x5.toNatClampNeg (vp_nar .boolean (1 : Int32))))))))
set_option maxHeartbeats 4000000 in
set_option maxRecDepth 100000 in
theorem tX4_find_30 (N : Nat) {l : Launch} {D : va_G} {ca : Nat → ClassId} {ad : Nat → Nat} {p : Program} {e : Env} {s : State} {mm : MethodId} {args : Array Value} {below : List Frame} {meth : Method} {c : Code} {k88 : Nat → Int32 → Mem → Option Mem} (hn : HNc ca) (X : CX p s mm args meth c cX4_find 7 RX4 D ca ad (WA ca ad s.heap.size)) (hr : meth.sig.returnType = none) (fin : Mem) (hk88 : ∀ (x2 : Nat) (x3 : Int32) (m : Mem) (H : Heap) (locs : List Loc) (ls : Array Slot), ly ca x2 = (0, 0) → IW D ca ad (WA ca ad s.heap.size) s m H locs → lv_has ls 7 [(0, .ref (ad 95)), (2, .ref (ad x2)), (3, .int x3)] → k88 x2 x3 m = some fin → W p l e rmX4_find s mm args below meth c H locs 0 0 (MQ below (QV D ca ad s.heap.size fin) args s 0 0 (WA ca ad s.heap.size)) (F0 mm 88 ls [])) : ∀ (n : Nat) (x1 : Nat) (x2 : Nat) (x3 : Int32) (x4 : Int32) (x5 : Int32) (m : Mem) (H : Heap) (locs : List Loc) (ls : Array Slot), ly ca x1 = (0, 6) → ly ca x2 = (0, 0) → IW D ca ad (WA ca ad s.heap.size) s m H locs → lv_has ls 7 [(0, .ref (ad 95)), (1, .ref (ad x1)), (2, .ref (ad x2)), (3, .int x3), (4, .int x4), (5, .int x5)] → fX4_find_30 N k88 n x1 x2 x3 x4 x5 m = some fin → W p l e rmX4_find s mm args below meth c H locs 0 0 (MQ below (QV D ca ad s.heap.size fin) args s 0 0 (WA ca ad s.heap.size)) (F0 mm 30 ls []) := by
  have hx := X.1
  have hb := X.2.1
  intro n
  induction n with
  | zero => intro x1 x2 x3 x4 x5 m H locs ls hx1 hx2 hI hl hm
            exact absurd hm (by intro q; cases q)
  | succ n ih =>
    intro x1 x2 x3 x4 x5 m H locs ls hx1 hx2 hI hl hm
    have hm : (if (Int32.ofNat 36) ≤ x5 then (k88 x2 x3 m) else (if x4 ≤ (jrem x5 (6 : Int32)) then (if x5 < 0 ∨ 36 ≤ x5.toNatClampNeg then none else (fX4_find_30 N k88 n x1 x2 x3 x4 (x5 + (1 : Int32)) (mI m 97 x5.toNatClampNeg (vp_nar .boolean (0 : Int32))))) else ((fX6_easeIn N x1 x2 (x5 / (6 : Int32)) (jrem x5 (6 : Int32)) (0 : Int32) m).bind (fun q13 => if q13.1 = 0 then (if x5 < 0 ∨ 36 ≤ x5.toNatClampNeg then none else (fX4_find_30 N k88 n x1 x2 x3 x4 (x5 + (1 : Int32)) (mI q13.2 97 x5.toNatClampNeg (vp_nar .boolean (0 : Int32))))) else (if x5 < 0 ∨ 36 ≤ x5.toNatClampNeg then none else (fX4_find_30 N k88 n x1 x2 x3 x4 (x5 + (1 : Int32)) (mI q13.2 97 x5.toNatClampNeg (vp_nar .boolean (1 : Int32))))))))) = some fin := hm
    refine lv_iload hx hb dX4_find_30 (lv_at hl 5 rfl) ?_
    refine lv_aload_n hx hb dX4_find_32 rfl (lv_at hl 0 rfl) ?_
    refine gR X hI fdX4_15 (la_95 hn) rf4_1 dX4_find_33 ?_
    refine nZ X hI (la_97 hn) dX4_find_36 ?_
    refine lv_icmp_ge (tgt := 88) hx hb dX4_find_37 (by decide) (fun c10 => ?_) (fun c10 => ?_)
    · have hm := g_t c10 hm
      exact hk88 x2 x3 m H locs ls hx2 hI (lv_sub hl [0, 2, 3] rfl) hm
    · have hm := g_f c10 hm
      refine lv_iload hx hb dX4_find_40 (lv_at hl 5 rfl) ?_
      refine lv_bipush (v := (6 : Int32)) hx hb dX4_find_42 (by decide) ?_
      refine kRem hx hb dX4_find_44 (by decide) ?_
      refine lv_istore (lv' := [(6, .int (jrem x5 (6 : Int32))), (0, .ref (ad 95)), (1, .ref (ad x1)), (2, .ref (ad x2)), (3, .int x3), (4, .int x4), (5, .int x5)]) hx hb dX4_find_45 hl (by decide) rfl (fun ls hl => ?_)
      refine lv_aload_n hx hb dX4_find_47 rfl (lv_at hl 1 rfl) ?_
      refine gR X hI fdX4_15 (la_95 hn) rf4_1 dX4_find_48 ?_
      refine lv_iload hx hb dX4_find_51 (lv_at hl 6 rfl) ?_
      refine lv_iload hx hb dX4_find_53 (lv_at hl 0 rfl) ?_
      refine lv_iload hx hb dX4_find_55 (lv_at hl 5 rfl) ?_
      refine lv_icmp_ge (tgt := 80) hx hb dX4_find_57 (by decide) (fun c11 => ?_) (fun c11 => ?_)
      · have hm := g_t c11 hm
        refine lv_iconst (v := (0 : Int32)) hx hb dX4_find_80 (by decide) ?_
        obtain ⟨g12, hm⟩ := g_no hm
        refine sZ X hI (la_97 hn) g12 dX4_find_81 (fun H locs hI => ?_)
        refine lv_iinc (v := (x5 + (1 : Int32))) (lv' := [(5, .int (x5 + (1 : Int32))), (6, .int (jrem x5 (6 : Int32))), (0, .ref (ad 95)), (1, .ref (ad x1)), (2, .ref (ad x2)), (3, .int x3), (4, .int x4)]) hx hb dX4_find_82 hl (k := 6) rfl rfl (by decide) rfl (fun ls hl => ?_)
        refine lv_goto (tgt := 30) hx hb dX4_find_85 (by decide) ?_
        exact ih x1 x2 x3 x4 (x5 + (1 : Int32)) (mI m 97 x5.toNatClampNeg (vp_nar .boolean (0 : Int32))) H locs ls hx1 hx2 hI (lv_sub hl [2, 3, 4, 5, 6, 0] rfl) hm
      · have hm := g_f c11 hm
        refine lv_aload_n hx hb dX4_find_60 rfl (lv_at hl 2 rfl) ?_
        refine lv_aload_n hx hb dX4_find_61 rfl (lv_at hl 3 rfl) ?_
        refine lv_iload hx hb dX4_find_62 (lv_at hl 6 rfl) ?_
        refine lv_bipush (v := (6 : Int32)) hx hb dX4_find_64 (by decide) ?_
        refine lv_idiv hx hb dX4_find_66 (by decide) ?_
        refine lv_iload hx hb dX4_find_67 (lv_at hl 0 rfl) ?_
        refine lv_iconst (v := (0 : Int32)) hx hb dX4_find_69 (by decide) ?_
        obtain ⟨q13, h14, hm⟩ := g_b hm
        refine backI X hI (runV X hI (ctX6_easeIn N x1 x2 (x5 / (6 : Int32)) (jrem x5 (6 : Int32)) (0 : Int32) hx1 hx2 hn _ _ h14 _) mdX4_43 hx1 rfl ⟨rfl, rfl⟩ ⟨Nat.le_of_ble_eq_true rfl, Nat.le_of_ble_eq_true rfl⟩ rfl hl.1 rfl (Nat.le_of_ble_eq_true rfl) dX4_find_70) (fun H locs hI => ?_)
        refine lv_if_eq (tgt := 80) hx hb dX4_find_73 (by decide) (fun c15 => ?_) (fun c15 => ?_)
        · have hm := g_t c15 hm
          refine lv_iconst (v := (0 : Int32)) hx hb dX4_find_80 (by decide) ?_
          obtain ⟨g16, hm⟩ := g_no hm
          refine sZ X hI (la_97 hn) g16 dX4_find_81 (fun H locs hI => ?_)
          refine lv_iinc (v := (x5 + (1 : Int32))) (lv' := [(5, .int (x5 + (1 : Int32))), (6, .int (jrem x5 (6 : Int32))), (0, .ref (ad 95)), (1, .ref (ad x1)), (2, .ref (ad x2)), (3, .int x3), (4, .int x4)]) hx hb dX4_find_82 hl (k := 6) rfl rfl (by decide) rfl (fun ls hl => ?_)
          refine lv_goto (tgt := 30) hx hb dX4_find_85 (by decide) ?_
          exact ih x1 x2 x3 x4 (x5 + (1 : Int32)) (mI q13.2 97 x5.toNatClampNeg (vp_nar .boolean (0 : Int32))) H locs ls hx1 hx2 hI (lv_sub hl [2, 3, 4, 5, 6, 0] rfl) hm
        · have hm := g_f c15 hm
          refine lv_iconst (v := (1 : Int32)) hx hb dX4_find_76 (by decide) ?_
          refine lv_goto (tgt := 81) hx hb dX4_find_77 (by decide) ?_
          obtain ⟨g17, hm⟩ := g_no hm
          refine sZ X hI (la_97 hn) g17 dX4_find_81 (fun H locs hI => ?_)
          refine lv_iinc (v := (x5 + (1 : Int32))) (lv' := [(5, .int (x5 + (1 : Int32))), (6, .int (jrem x5 (6 : Int32))), (0, .ref (ad 95)), (1, .ref (ad x1)), (2, .ref (ad x2)), (3, .int x3), (4, .int x4)]) hx hb dX4_find_82 hl (k := 6) rfl rfl (by decide) rfl (fun ls hl => ?_)
          refine lv_goto (tgt := 30) hx hb dX4_find_85 (by decide) ?_
          exact ih x1 x2 x3 x4 (x5 + (1 : Int32)) (mI q13.2 97 x5.toNatClampNeg (vp_nar .boolean (1 : Int32))) H locs ls hx1 hx2 hI (lv_sub hl [2, 3, 4, 5, 6, 0] rfl) hm
def fX4_find (N : Nat) (x1 : Nat) (x2 : Nat) (m : Mem) : Option Mem := fX4_find_30 N (fX4_find_88 N) N x1 x2 (imin (m.1 (x1 + 1) 2) (6 : Int32)) (imin (m.1 (x1 + 3) 2) (6 : Int32)) (0 : Int32) m
set_option maxHeartbeats 4000000 in
set_option maxRecDepth 100000 in
theorem ctX4_find {l : Launch} {D : va_G} {ca : Nat → ClassId} {ad : Nat → Nat} (N : Nat) (x1 : Nat) (x2 : Nat) (hx1 : ly ca x1 = (0, 6)) (hx2 : ly ca x2 = (0, 0)) (hn : HNc ca) (m : Mem) (fin : Mem) (hm : fX4_find N x1 x2 m = some fin) : CV l D ca ad yX4_find cwX4_find rmX4_find [.ref (ad 95), .ref (ad x1), .ref (ad x2)] m fin := by
  refine start (by decide) (Nat.le_of_ble_eq_true rfl) ?_
  intro p e s mm args below meth c H locs ls X hI hr hl
  have X : CX p s mm args meth c cX4_find 7 RX4 D ca ad (WA ca ad s.heap.size) := X
  have hx := X.1
  have hb := X.2.1
  have hl : lv_has ls 7 [(0, .ref (ad 95)), (1, .ref (ad x1)), (2, .ref (ad x2))] := hl
  have hm : (fX4_find_30 N (fX4_find_88 N) N x1 x2 (imin (m.1 (x1 + 1) 2) (6 : Int32)) (imin (m.1 (x1 + 3) 2) (6 : Int32)) (0 : Int32) m) = some fin := hm
  refine lv_aload_n hx hb dX4_find_0 rfl (lv_at hl 1 rfl) ?_
  refine gR X hI fdX4_22 hx1 rf6_0 dX4_find_1 ?_
  refine gI X hI fdX4_28 (lf6_0 hn hx1) dX4_find_4 ?_
  refine lv_bipush (v := (6 : Int32)) hx hb dX4_find_7 (by decide) ?_
  refine kMin X mpX4_34 hl.1 (Nat.le_of_ble_eq_true rfl) (Nat.le_of_ble_eq_true rfl) dX4_find_9 ?_
  refine lv_istore_n (lv' := [(3, .int (imin (m.1 (x1 + 1) 2) (6 : Int32))), (0, .ref (ad 95)), (1, .ref (ad x1)), (2, .ref (ad x2))]) hx hb dX4_find_12 rfl hl (by decide) rfl (fun ls hl => ?_)
  refine lv_aload_n hx hb dX4_find_13 rfl (lv_at hl 2 rfl) ?_
  refine gR X hI fdX4_40 hx1 rf6_1 dX4_find_14 ?_
  refine gI X hI fdX4_28 (lf6_1 hn hx1) dX4_find_17 ?_
  refine lv_bipush (v := (6 : Int32)) hx hb dX4_find_20 (by decide) ?_
  refine kMin X mpX4_34 hl.1 (Nat.le_of_ble_eq_true rfl) (Nat.le_of_ble_eq_true rfl) dX4_find_22 ?_
  refine lv_istore (lv' := [(4, .int (imin (m.1 (x1 + 3) 2) (6 : Int32))), (3, .int (imin (m.1 (x1 + 1) 2) (6 : Int32))), (0, .ref (ad 95)), (1, .ref (ad x1)), (2, .ref (ad x2))]) hx hb dX4_find_25 hl (by decide) rfl (fun ls hl => ?_)
  refine lv_iconst (v := (0 : Int32)) hx hb dX4_find_27 (by decide) ?_
  refine lv_istore (lv' := [(5, .int (0 : Int32)), (4, .int (imin (m.1 (x1 + 3) 2) (6 : Int32))), (3, .int (imin (m.1 (x1 + 1) 2) (6 : Int32))), (0, .ref (ad 95)), (1, .ref (ad x1)), (2, .ref (ad x2))]) hx hb dX4_find_28 hl (by decide) rfl (fun ls hl => ?_)
  exact tX4_find_30 N hn X hr fin (tX4_find_88 N hn X hr fin ) N x1 x2 (imin (m.1 (x1 + 1) 2) (6 : Int32)) (imin (m.1 (x1 + 3) 2) (6 : Int32)) (0 : Int32) m H locs ls hx1 hx2 hI (lv_sub hl [3, 4, 5, 2, 1, 0] rfl) hm
abbrev rmX5_drawn : Room := { frames := 0, cells := 0, slots := 0, locals := 0 }
def fX5_drawn   (m : Mem) : Option Mem := some (mI (mI (mI (mI m 73 0 (0 : Int32)) 73 1 (-1 : Int32)) 73 2 (1 : Int32)) 73 3 (1 : Int32))
set_option maxHeartbeats 4000000 in
set_option maxRecDepth 100000 in
theorem ctX5_drawn {l : Launch} {D : va_G} {ca : Nat → ClassId} {ad : Nat → Nat}    (hn : HNc ca) (m : Mem) (fin : Mem) (hm : fX5_drawn  m = some fin) : CV l D ca ad yX5_drawn cwX5_drawn rmX5_drawn [.ref (ad 73)] m fin := by
  refine start (by decide) (Nat.le_of_ble_eq_true rfl) ?_
  intro p e s mm args below meth c H locs ls X hI hr hl
  have X : CX p s mm args meth c cX5_drawn 1 RX5 D ca ad (WA ca ad s.heap.size) := X
  have hx := X.1
  have hb := X.2.1
  have hl : lv_has ls 1 [(0, .ref (ad 73))] := hl
  have hm : (some (mI (mI (mI (mI m 73 0 (0 : Int32)) 73 1 (-1 : Int32)) 73 2 (1 : Int32)) 73 3 (1 : Int32))) = some fin := hm
  refine lv_aload_n hx hb dX5_drawn_0 rfl (lv_at hl 0 rfl) ?_
  refine lv_iconst (v := (0 : Int32)) hx hb dX5_drawn_1 (by decide) ?_
  refine pI X hI fpX5_22 (la_73 hn) dX5_drawn_2 (fun H locs hI => ?_)
  refine lv_aload_n hx hb dX5_drawn_5 rfl (lv_at hl 0 rfl) ?_
  refine lv_iconst (v := (-1 : Int32)) hx hb dX5_drawn_6 (by decide) ?_
  refine pI X hI fpX5_9 (la_73 hn) dX5_drawn_7 (fun H locs hI => ?_)
  refine lv_aload_n hx hb dX5_drawn_10 rfl (lv_at hl 0 rfl) ?_
  refine lv_iconst (v := (1 : Int32)) hx hb dX5_drawn_11 (by decide) ?_
  refine pZ X hI fpX5_15 (la_73 hn) (by decide) dX5_drawn_12 (fun H locs hI => ?_)
  refine lv_aload_n hx hb dX5_drawn_15 rfl (lv_at hl 0 rfl) ?_
  refine lv_iconst (v := (1 : Int32)) hx hb dX5_drawn_16 (by decide) ?_
  refine pZ X hI fpX5_19 (la_73 hn) (by decide) dX5_drawn_17 (fun H locs hI => ?_)
  exact rV X hI hr (g_1 hm) dX5_drawn_20
abbrev rmX5_asItGoes : Room := { frames := 1, cells := 0, slots := 0, locals := 20 }
def fX5_asItGoes_19  (y0 : Int32) (m : Mem) : Option Mem := some (mI m 73 0 y0)
set_option maxHeartbeats 4000000 in
set_option maxRecDepth 100000 in
theorem tX5_asItGoes_19  {l : Launch} {D : va_G} {ca : Nat → ClassId} {ad : Nat → Nat} {p : Program} {e : Env} {s : State} {mm : MethodId} {args : Array Value} {below : List Frame} {meth : Method} {c : Code}  (hn : HNc ca) (X : CX p s mm args meth c cX5_asItGoes 2 RX5 D ca ad (WA ca ad s.heap.size)) (hr : meth.sig.returnType = none) (fin : Mem)  : ∀ (y0 : Int32) (m : Mem) (H : Heap) (locs : List Loc) (ls : Array Slot), IW D ca ad (WA ca ad s.heap.size) s m H locs → lv_has ls 2 [] → fX5_asItGoes_19  y0 m = some fin → W p l e rmX5_asItGoes s mm args below meth c H locs 0 0 (MQ below (QV D ca ad s.heap.size fin) args s 0 0 (WA ca ad s.heap.size)) (F0 mm 19 ls [.int y0, .ref (ad 73)]) := by
  have hx := X.1
  have hb := X.2.1
  intro y0 m H locs ls hI hl hm
  have hm : (some (mI m 73 0 y0)) = some fin := hm
  refine pI X hI fpX5_22 (la_73 hn) dX5_asItGoes_19 (fun H locs hI => ?_)
  exact rV X hI hr (g_1 hm) dX5_asItGoes_22
def fX5_asItGoes  (x1 : Nat) (m : Mem) : Option Mem := (fX5_drawn  m).bind (fun q1 => if (q1.1 x1 6) < (50 : Int32) then (fX5_asItGoes_19 (2 : Int32) q1) else (fX5_asItGoes_19 (1 : Int32) q1))
set_option maxHeartbeats 4000000 in
set_option maxRecDepth 100000 in
theorem ctX5_asItGoes {l : Launch} {D : va_G} {ca : Nat → ClassId} {ad : Nat → Nat}  (x1 : Nat) (hx1 : ly ca x1 = (0, 6)) (hn : HNc ca) (m : Mem) (fin : Mem) (hm : fX5_asItGoes x1 m = some fin) : CV l D ca ad yX5_asItGoes cwX5_asItGoes rmX5_asItGoes [.ref (ad 73), .ref (ad x1)] m fin := by
  refine start (by decide) (Nat.le_of_ble_eq_true rfl) ?_
  intro p e s mm args below meth c H locs ls X hI hr hl
  have X : CX p s mm args meth c cX5_asItGoes 2 RX5 D ca ad (WA ca ad s.heap.size) := X
  have hx := X.1
  have hb := X.2.1
  have hl : lv_has ls 2 [(0, .ref (ad 73)), (1, .ref (ad x1))] := hl
  have hm : ((fX5_drawn  m).bind (fun q1 => if (q1.1 x1 6) < (50 : Int32) then (fX5_asItGoes_19 (2 : Int32) q1) else (fX5_asItGoes_19 (1 : Int32) q1))) = some fin := hm
  refine lv_aload_n hx hb dX5_asItGoes_0 rfl (lv_at hl 0 rfl) ?_
  obtain ⟨q1, h2, hm⟩ := g_b hm
  refine backV X hI (runV X hI (ctX5_drawn   hn _ _ h2 _) mdX5_25 (la_73 hn) rfl ⟨rfl, rfl⟩ ⟨Nat.le_of_ble_eq_true rfl, Nat.le_of_ble_eq_true rfl⟩ rfl hl.1 rfl (Nat.le_of_ble_eq_true rfl) dX5_asItGoes_1) (fun H locs hI => ?_)
  refine lv_aload_n hx hb dX5_asItGoes_4 rfl (lv_at hl 0 rfl) ?_
  refine lv_aload_n hx hb dX5_asItGoes_5 rfl (lv_at hl 1 rfl) ?_
  refine gI X hI fdX5_28 hx1 dX5_asItGoes_6 ?_
  refine lv_bipush (v := (50 : Int32)) hx hb dX5_asItGoes_9 (by decide) ?_
  refine lv_icmp_lt (tgt := 18) hx hb dX5_asItGoes_11 (by decide) (fun c3 => ?_) (fun c3 => ?_)
  · have hm := g_t c3 hm
    refine lv_iconst (v := (2 : Int32)) hx hb dX5_asItGoes_18 (by decide) ?_
    exact tX5_asItGoes_19  hn X hr fin  (2 : Int32) q1 H locs ls hI (lv_sub hl [] rfl) hm
  · have hm := g_f c3 hm
    refine lv_iconst (v := (1 : Int32)) hx hb dX5_asItGoes_14 (by decide) ?_
    refine lv_goto (tgt := 19) hx hb dX5_asItGoes_15 (by decide) ?_
    exact tX5_asItGoes_19  hn X hr fin  (1 : Int32) q1 H locs ls hI (lv_sub hl [] rfl) hm
abbrev rmX5_otherwise : Room := { frames := 0, cells := 0, slots := 0, locals := 0 }
def fX5_otherwise  (x1 : Int32) (x2 : Int32) (m : Mem) : Option Mem := if x1 = 0 then (some (mI m 73 0 (1 : Int32))) else (if x1 = (1 : Int32) then (some (mI m 73 0 (2 : Int32))) else (if x1 = (2 : Int32) then (some (mI m 73 1 x2)) else (if x1 = (3 : Int32) then (some (mI m 73 2 (0 : Int32))) else (some (mI m 73 3 (0 : Int32))))))
set_option maxHeartbeats 4000000 in
set_option maxRecDepth 100000 in
theorem ctX5_otherwise {l : Launch} {D : va_G} {ca : Nat → ClassId} {ad : Nat → Nat}  (x1 : Int32) (x2 : Int32)  (hn : HNc ca) (m : Mem) (fin : Mem) (hm : fX5_otherwise x1 x2 m = some fin) : CV l D ca ad yX5_otherwise cwX5_otherwise rmX5_otherwise [.ref (ad 73), .int x1, .int x2] m fin := by
  refine start (by decide) (Nat.le_of_ble_eq_true rfl) ?_
  intro p e s mm args below meth c H locs ls X hI hr hl
  have X : CX p s mm args meth c cX5_otherwise 3 RX5 D ca ad (WA ca ad s.heap.size) := X
  have hx := X.1
  have hb := X.2.1
  have hl : lv_has ls 3 [(0, .ref (ad 73)), (1, .int x1), (2, .int x2)] := hl
  have hm : (if x1 = 0 then (some (mI m 73 0 (1 : Int32))) else (if x1 = (1 : Int32) then (some (mI m 73 0 (2 : Int32))) else (if x1 = (2 : Int32) then (some (mI m 73 1 x2)) else (if x1 = (3 : Int32) then (some (mI m 73 2 (0 : Int32))) else (some (mI m 73 3 (0 : Int32))))))) = some fin := hm
  refine lv_iload_n hx hb dX5_otherwise_0 rfl (lv_at hl 1 rfl) ?_
  refine lv_if_ne (tgt := 12) hx hb dX5_otherwise_1 (by decide) (fun c1 => ?_) (fun c1 => ?_)
  · have hm := g_f c1 hm
    refine lv_iload_n hx hb dX5_otherwise_12 rfl (lv_at hl 1 rfl) ?_
    refine lv_iconst (v := (1 : Int32)) hx hb dX5_otherwise_13 (by decide) ?_
    refine lv_icmp_ne (tgt := 25) hx hb dX5_otherwise_14 (by decide) (fun c2 => ?_) (fun c2 => ?_)
    · have hm := g_f c2 hm
      refine lv_iload_n hx hb dX5_otherwise_25 rfl (lv_at hl 1 rfl) ?_
      refine lv_iconst (v := (2 : Int32)) hx hb dX5_otherwise_26 (by decide) ?_
      refine lv_icmp_ne (tgt := 38) hx hb dX5_otherwise_27 (by decide) (fun c3 => ?_) (fun c3 => ?_)
      · have hm := g_f c3 hm
        refine lv_iload_n hx hb dX5_otherwise_38 rfl (lv_at hl 1 rfl) ?_
        refine lv_iconst (v := (3 : Int32)) hx hb dX5_otherwise_39 (by decide) ?_
        refine lv_icmp_ne (tgt := 51) hx hb dX5_otherwise_40 (by decide) (fun c4 => ?_) (fun c4 => ?_)
        · have hm := g_f c4 hm
          refine lv_aload_n hx hb dX5_otherwise_51 rfl (lv_at hl 0 rfl) ?_
          refine lv_iconst (v := (0 : Int32)) hx hb dX5_otherwise_52 (by decide) ?_
          refine pZ X hI fpX5_19 (la_73 hn) (by decide) dX5_otherwise_53 (fun H locs hI => ?_)
          exact rV X hI hr (g_1 hm) dX5_otherwise_56
        · have hm := g_t c4 hm
          refine lv_aload_n hx hb dX5_otherwise_43 rfl (lv_at hl 0 rfl) ?_
          refine lv_iconst (v := (0 : Int32)) hx hb dX5_otherwise_44 (by decide) ?_
          refine pZ X hI fpX5_15 (la_73 hn) (by decide) dX5_otherwise_45 (fun H locs hI => ?_)
          refine lv_goto (tgt := 56) hx hb dX5_otherwise_48 (by decide) ?_
          exact rV X hI hr (g_1 hm) dX5_otherwise_56
      · have hm := g_t c3 hm
        refine lv_aload_n hx hb dX5_otherwise_30 rfl (lv_at hl 0 rfl) ?_
        refine lv_iload_n hx hb dX5_otherwise_31 rfl (lv_at hl 2 rfl) ?_
        refine pI X hI fpX5_9 (la_73 hn) dX5_otherwise_32 (fun H locs hI => ?_)
        refine lv_goto (tgt := 56) hx hb dX5_otherwise_35 (by decide) ?_
        exact rV X hI hr (g_1 hm) dX5_otherwise_56
    · have hm := g_t c2 hm
      refine lv_aload_n hx hb dX5_otherwise_17 rfl (lv_at hl 0 rfl) ?_
      refine lv_iconst (v := (2 : Int32)) hx hb dX5_otherwise_18 (by decide) ?_
      refine pI X hI fpX5_22 (la_73 hn) dX5_otherwise_19 (fun H locs hI => ?_)
      refine lv_goto (tgt := 56) hx hb dX5_otherwise_22 (by decide) ?_
      exact rV X hI hr (g_1 hm) dX5_otherwise_56
  · have hm := g_t c1 hm
    refine lv_aload_n hx hb dX5_otherwise_4 rfl (lv_at hl 0 rfl) ?_
    refine lv_iconst (v := (1 : Int32)) hx hb dX5_otherwise_5 (by decide) ?_
    refine pI X hI fpX5_22 (la_73 hn) dX5_otherwise_6 (fun H locs hI => ?_)
    refine lv_goto (tgt := 56) hx hb dX5_otherwise_9 (by decide) ?_
    exact rV X hI hr (g_1 hm) dX5_otherwise_56
abbrev rmX5_passMany : Room := { frames := 6, cells := 0, slots := 0, locals := 155 }
def fX5_passMany_3 (N : Nat) : Nat → Nat → Nat → Int32 → Int32 → Mem → Option Mem
  | 0, _, _, _, _, _ => none
  | n + 1, x1, x2, x3, x4, m => if x3 ≤ x4 then (some m) else ((fX5_pass N x1 x2 m).bind (fun q2 => fX5_passMany_3 N n x1 x2 x3 (x4 + (1 : Int32)) q2))
set_option maxHeartbeats 4000000 in
set_option maxRecDepth 100000 in
theorem tX5_passMany_3 (N : Nat) {l : Launch} {D : va_G} {ca : Nat → ClassId} {ad : Nat → Nat} {p : Program} {e : Env} {s : State} {mm : MethodId} {args : Array Value} {below : List Frame} {meth : Method} {c : Code}  (hn : HNc ca) (X : CX p s mm args meth c cX5_passMany 5 RX5 D ca ad (WA ca ad s.heap.size)) (hr : meth.sig.returnType = none) (fin : Mem)  : ∀ (n : Nat) (x1 : Nat) (x2 : Nat) (x3 : Int32) (x4 : Int32) (m : Mem) (H : Heap) (locs : List Loc) (ls : Array Slot), ly ca x1 = (0, 6) → ly ca x2 = (0, 0) → IW D ca ad (WA ca ad s.heap.size) s m H locs → lv_has ls 5 [(0, .ref (ad 73)), (1, .ref (ad x1)), (2, .ref (ad x2)), (3, .int x3), (4, .int x4)] → fX5_passMany_3 N n x1 x2 x3 x4 m = some fin → W p l e rmX5_passMany s mm args below meth c H locs 0 0 (MQ below (QV D ca ad s.heap.size fin) args s 0 0 (WA ca ad s.heap.size)) (F0 mm 3 ls []) := by
  have hx := X.1
  have hb := X.2.1
  intro n
  induction n with
  | zero => intro x1 x2 x3 x4 m H locs ls hx1 hx2 hI hl hm
            exact absurd hm (by intro q; cases q)
  | succ n ih =>
    intro x1 x2 x3 x4 m H locs ls hx1 hx2 hI hl hm
    have hm : (if x3 ≤ x4 then (some m) else ((fX5_pass N x1 x2 m).bind (fun q2 => fX5_passMany_3 N n x1 x2 x3 (x4 + (1 : Int32)) q2))) = some fin := hm
    refine lv_iload hx hb dX5_passMany_3 (lv_at hl 4 rfl) ?_
    refine lv_iload_n hx hb dX5_passMany_5 rfl (lv_at hl 3 rfl) ?_
    refine lv_icmp_ge (tgt := 21) hx hb dX5_passMany_6 (by decide) (fun c1 => ?_) (fun c1 => ?_)
    · have hm := g_t c1 hm
      exact rV X hI hr (g_1 hm) dX5_passMany_21
    · have hm := g_f c1 hm
      refine lv_aload_n hx hb dX5_passMany_9 rfl (lv_at hl 0 rfl) ?_
      refine lv_aload_n hx hb dX5_passMany_10 rfl (lv_at hl 1 rfl) ?_
      refine lv_aload_n hx hb dX5_passMany_11 rfl (lv_at hl 2 rfl) ?_
      obtain ⟨q2, h3, hm⟩ := g_b hm
      refine backV X hI (runV X hI (ctX5_pass N x1 x2 hx1 hx2 hn _ _ h3 _) mdX5_33 (la_73 hn) rfl ⟨rfl, rfl⟩ ⟨Nat.le_of_ble_eq_true rfl, Nat.le_of_ble_eq_true rfl⟩ rfl hl.1 rfl (Nat.le_of_ble_eq_true rfl) dX5_passMany_12) (fun H locs hI => ?_)
      refine lv_iinc (v := (x4 + (1 : Int32))) (lv' := [(4, .int (x4 + (1 : Int32))), (0, .ref (ad 73)), (1, .ref (ad x1)), (2, .ref (ad x2)), (3, .int x3)]) hx hb dX5_passMany_15 hl (k := 4) rfl rfl (by decide) rfl (fun ls hl => ?_)
      refine lv_goto (tgt := 3) hx hb dX5_passMany_18 (by decide) ?_
      exact ih x1 x2 x3 (x4 + (1 : Int32)) q2 H locs ls hx1 hx2 hI (lv_sub hl [1, 2, 3, 4, 0] rfl) hm
def fX5_passMany (N : Nat) (x1 : Nat) (x2 : Nat) (x3 : Int32) (m : Mem) : Option Mem := fX5_passMany_3 N N x1 x2 x3 (0 : Int32) m
set_option maxHeartbeats 4000000 in
set_option maxRecDepth 100000 in
theorem ctX5_passMany {l : Launch} {D : va_G} {ca : Nat → ClassId} {ad : Nat → Nat} (N : Nat) (x1 : Nat) (x2 : Nat) (x3 : Int32) (hx1 : ly ca x1 = (0, 6)) (hx2 : ly ca x2 = (0, 0)) (hn : HNc ca) (m : Mem) (fin : Mem) (hm : fX5_passMany N x1 x2 x3 m = some fin) : CV l D ca ad yX5_passMany cwX5_passMany rmX5_passMany [.ref (ad 73), .ref (ad x1), .ref (ad x2), .int x3] m fin := by
  refine start (by decide) (Nat.le_of_ble_eq_true rfl) ?_
  intro p e s mm args below meth c H locs ls X hI hr hl
  have X : CX p s mm args meth c cX5_passMany 5 RX5 D ca ad (WA ca ad s.heap.size) := X
  have hx := X.1
  have hb := X.2.1
  have hl : lv_has ls 5 [(0, .ref (ad 73)), (1, .ref (ad x1)), (2, .ref (ad x2)), (3, .int x3)] := hl
  have hm : (fX5_passMany_3 N N x1 x2 x3 (0 : Int32) m) = some fin := hm
  refine lv_iconst (v := (0 : Int32)) hx hb dX5_passMany_0 (by decide) ?_
  refine lv_istore (lv' := [(4, .int (0 : Int32)), (0, .ref (ad 73)), (1, .ref (ad x1)), (2, .ref (ad x2)), (3, .int x3)]) hx hb dX5_passMany_1 hl (by decide) rfl (fun ls hl => ?_)
  exact tX5_passMany_3 N hn X hr fin  N x1 x2 x3 (0 : Int32) m H locs ls hx1 hx2 hI (lv_sub hl [1, 2, 3, 4, 0] rfl) hm
abbrev rmX6_forget : Room := { frames := 1, cells := 0, slots := 0, locals := 21 }
def fX6_forget (N : Nat) (x0 : Nat) (m : Mem) : Option Mem := (fX3_forget N (x0 + 11) (mI (mI (mI (mI (mI m (x0 + 1) 2 (0 : Int32)) (x0 + 3) 2 (0 : Int32)) (x0 + 5) 2 (0 : Int32)) (x0 + 7) 2 (0 : Int32)) (x0 + 9) 2 (0 : Int32))).bind (fun q1 => some (mI (mI (mI (mI (mI q1 x0 6 (100 : Int32)) x0 7 (0 : Int32)) x0 8 (0 : Int32)) x0 9 (0 : Int32)) x0 10 (0 : Int32)))
set_option maxHeartbeats 4000000 in
set_option maxRecDepth 100000 in
theorem ctX6_forget {l : Launch} {D : va_G} {ca : Nat → ClassId} {ad : Nat → Nat} (N : Nat) (x0 : Nat) (hx0 : ly ca x0 = (0, 6)) (hn : HNc ca) (m : Mem) (fin : Mem) (hm : fX6_forget N x0 m = some fin) : CV l D ca ad yX6_forget cwX6_forget rmX6_forget [.ref (ad x0)] m fin := by
  refine start (by decide) (Nat.le_of_ble_eq_true rfl) ?_
  intro p e s mm args below meth c H locs ls X hI hr hl
  have X : CX p s mm args meth c cX6_forget 1 RX6 D ca ad (WA ca ad s.heap.size) := X
  have hx := X.1
  have hb := X.2.1
  have hl : lv_has ls 1 [(0, .ref (ad x0))] := hl
  have hm : ((fX3_forget N (x0 + 11) (mI (mI (mI (mI (mI m (x0 + 1) 2 (0 : Int32)) (x0 + 3) 2 (0 : Int32)) (x0 + 5) 2 (0 : Int32)) (x0 + 7) 2 (0 : Int32)) (x0 + 9) 2 (0 : Int32))).bind (fun q1 => some (mI (mI (mI (mI (mI q1 x0 6 (100 : Int32)) x0 7 (0 : Int32)) x0 8 (0 : Int32)) x0 9 (0 : Int32)) x0 10 (0 : Int32)))) = some fin := hm
  refine lv_aload_n hx hb dX6_forget_0 rfl (lv_at hl 0 rfl) ?_
  refine gR X hI fdX6_14 hx0 rf6_0 dX6_forget_1 ?_
  refine lv_iconst (v := (0 : Int32)) hx hb dX6_forget_4 (by decide) ?_
  refine pI X hI fpX6_43 (lf6_0 hn hx0) dX6_forget_5 (fun H locs hI => ?_)
  refine lv_aload_n hx hb dX6_forget_8 rfl (lv_at hl 0 rfl) ?_
  refine gR X hI fdX6_20 hx0 rf6_1 dX6_forget_9 ?_
  refine lv_iconst (v := (0 : Int32)) hx hb dX6_forget_12 (by decide) ?_
  refine pI X hI fpX6_43 (lf6_1 hn hx0) dX6_forget_13 (fun H locs hI => ?_)
  refine lv_aload_n hx hb dX6_forget_16 rfl (lv_at hl 0 rfl) ?_
  refine gR X hI fdX6_23 hx0 rf6_2 dX6_forget_17 ?_
  refine lv_iconst (v := (0 : Int32)) hx hb dX6_forget_20 (by decide) ?_
  refine pI X hI fpX6_43 (lf6_2 hn hx0) dX6_forget_21 (fun H locs hI => ?_)
  refine lv_aload_n hx hb dX6_forget_24 rfl (lv_at hl 0 rfl) ?_
  refine gR X hI fdX6_26 hx0 rf6_3 dX6_forget_25 ?_
  refine lv_iconst (v := (0 : Int32)) hx hb dX6_forget_28 (by decide) ?_
  refine pI X hI fpX6_43 (lf6_3 hn hx0) dX6_forget_29 (fun H locs hI => ?_)
  refine lv_aload_n hx hb dX6_forget_32 rfl (lv_at hl 0 rfl) ?_
  refine gR X hI fdX6_29 hx0 rf6_4 dX6_forget_33 ?_
  refine lv_iconst (v := (0 : Int32)) hx hb dX6_forget_36 (by decide) ?_
  refine pI X hI fpX6_43 (lf6_4 hn hx0) dX6_forget_37 (fun H locs hI => ?_)
  refine lv_aload_n hx hb dX6_forget_40 rfl (lv_at hl 0 rfl) ?_
  refine gR X hI fdX6_35 hx0 rf6_5 dX6_forget_41 ?_
  obtain ⟨q1, h2, hm⟩ := g_b hm
  refine backV X hI (runV X hI (ctX3_forget N (x0 + 11) (lf6_5 hn hx0) hn _ _ h2 _) mdX6_46 (lf6_5 hn hx0) rfl ⟨rfl, rfl⟩ ⟨Nat.le_of_ble_eq_true rfl, Nat.le_of_ble_eq_true rfl⟩ rfl hl.1 rfl (Nat.le_of_ble_eq_true rfl) dX6_forget_44) (fun H locs hI => ?_)
  refine lv_aload_n hx hb dX6_forget_47 rfl (lv_at hl 0 rfl) ?_
  refine lv_bipush (v := (100 : Int32)) hx hb dX6_forget_48 (by decide) ?_
  refine pI X hI fpX6_39 hx0 dX6_forget_50 (fun H locs hI => ?_)
  refine lv_aload_n hx hb dX6_forget_53 rfl (lv_at hl 0 rfl) ?_
  refine lv_iconst (v := (0 : Int32)) hx hb dX6_forget_54 (by decide) ?_
  refine pZ X hI fpX6_49 hx0 (by decide) dX6_forget_55 (fun H locs hI => ?_)
  refine lv_aload_n hx hb dX6_forget_58 rfl (lv_at hl 0 rfl) ?_
  refine lv_iconst (v := (0 : Int32)) hx hb dX6_forget_59 (by decide) ?_
  refine pI X hI fpX6_53 hx0 dX6_forget_60 (fun H locs hI => ?_)
  refine lv_aload_n hx hb dX6_forget_63 rfl (lv_at hl 0 rfl) ?_
  refine lv_iconst (v := (0 : Int32)) hx hb dX6_forget_64 (by decide) ?_
  refine pZ X hI fpX6_56 hx0 (by decide) dX6_forget_65 (fun H locs hI => ?_)
  refine lv_aload_n hx hb dX6_forget_68 rfl (lv_at hl 0 rfl) ?_
  refine lv_iconst (v := (0 : Int32)) hx hb dX6_forget_69 (by decide) ?_
  refine pI X hI fpX6_59 hx0 dX6_forget_70 (fun H locs hI => ?_)
  exact rV X hI hr (g_1 hm) dX6_forget_73
abbrev rmX7_forget : Room := { frames := 0, cells := 0, slots := 0, locals := 0 }
def fX7_forget   (m : Mem) : Option Mem := some (mI m 74 1 (0 : Int32))
set_option maxHeartbeats 4000000 in
set_option maxRecDepth 100000 in
theorem ctX7_forget {l : Launch} {D : va_G} {ca : Nat → ClassId} {ad : Nat → Nat}    (hn : HNc ca) (m : Mem) (fin : Mem) (hm : fX7_forget  m = some fin) : CV l D ca ad yX7_forget cwX7_forget rmX7_forget [.ref (ad 74)] m fin := by
  refine start (by decide) (Nat.le_of_ble_eq_true rfl) ?_
  intro p e s mm args below meth c H locs ls X hI hr hl
  have X : CX p s mm args meth c cX7_forget 1 RX7 D ca ad (WA ca ad s.heap.size) := X
  have hx := X.1
  have hb := X.2.1
  have hl : lv_has ls 1 [(0, .ref (ad 74))] := hl
  have hm : (some (mI m 74 1 (0 : Int32))) = some fin := hm
  refine lv_aload_n hx hb dX7_forget_0 rfl (lv_at hl 0 rfl) ?_
  refine lv_iconst (v := (0 : Int32)) hx hb dX7_forget_1 (by decide) ?_
  refine pI X hI fpX7_15 (la_74 hn) dX7_forget_2 (fun H locs hI => ?_)
  exact rV X hI hr (g_1 hm) dX7_forget_5
abbrev rmX7_save : Room := { frames := 1, cells := 0, slots := 0, locals := 28 }
def fX7_save_32  (x1 : Nat) (m : Mem) : Option Mem := if (0 : Int32) < 0 ∨ ((m.1 74 1) * (24 : Int32)) < 0 ∨ (6 : Int32) < 0 ∨ 6 < (0 : Int32).toNatClampNeg + (6 : Int32).toNatClampNeg ∨ 480 < ((m.1 74 1) * (24 : Int32)).toNatClampNeg + (6 : Int32).toNatClampNeg then none else (if (0 : Int32) < 0 ∨ (((m.1 74 1) * (24 : Int32)) + (6 : Int32)) < 0 ∨ (6 : Int32) < 0 ∨ 6 < (0 : Int32).toNatClampNeg + (6 : Int32).toNatClampNeg ∨ 480 < (((m.1 74 1) * (24 : Int32)) + (6 : Int32)).toNatClampNeg + (6 : Int32).toNatClampNeg then none else (if (0 : Int32) < 0 ∨ (((m.1 74 1) * (24 : Int32)) + (12 : Int32)) < 0 ∨ (6 : Int32) < 0 ∨ 6 < (0 : Int32).toNatClampNeg + (6 : Int32).toNatClampNeg ∨ 480 < (((m.1 74 1) * (24 : Int32)) + (12 : Int32)).toNatClampNeg + (6 : Int32).toNatClampNeg then none else (if (0 : Int32) < 0 ∨ ((((m.1 74 1) * (24 : Int32)) + (12 : Int32)) + (6 : Int32)) < 0 ∨ (6 : Int32) < 0 ∨ 6 < (0 : Int32).toNatClampNeg + (6 : Int32).toNatClampNeg ∨ 480 < ((((m.1 74 1) * (24 : Int32)) + (12 : Int32)) + (6 : Int32)).toNatClampNeg + (6 : Int32).toNatClampNeg then none else (some (mI (mC (mC (mC (mC m (x1 + 1) (0 : Int32).toNatClampNeg 75 ((m.1 74 1) * (24 : Int32)).toNatClampNeg (6 : Int32).toNatClampNeg) (x1 + 2) (0 : Int32).toNatClampNeg 75 (((m.1 74 1) * (24 : Int32)) + (6 : Int32)).toNatClampNeg (6 : Int32).toNatClampNeg) (x1 + 5) (0 : Int32).toNatClampNeg 75 (((m.1 74 1) * (24 : Int32)) + (12 : Int32)).toNatClampNeg (6 : Int32).toNatClampNeg) (x1 + 8) (0 : Int32).toNatClampNeg 75 ((((m.1 74 1) * (24 : Int32)) + (12 : Int32)) + (6 : Int32)).toNatClampNeg (6 : Int32).toNatClampNeg) 74 1 (((mC (mC (mC (mC m (x1 + 1) (0 : Int32).toNatClampNeg 75 ((m.1 74 1) * (24 : Int32)).toNatClampNeg (6 : Int32).toNatClampNeg) (x1 + 2) (0 : Int32).toNatClampNeg 75 (((m.1 74 1) * (24 : Int32)) + (6 : Int32)).toNatClampNeg (6 : Int32).toNatClampNeg) (x1 + 5) (0 : Int32).toNatClampNeg 75 (((m.1 74 1) * (24 : Int32)) + (12 : Int32)).toNatClampNeg (6 : Int32).toNatClampNeg) (x1 + 8) (0 : Int32).toNatClampNeg 75 ((((m.1 74 1) * (24 : Int32)) + (12 : Int32)) + (6 : Int32)).toNatClampNeg (6 : Int32).toNatClampNeg).1 74 1) + (1 : Int32)))))))
set_option maxHeartbeats 4000000 in
set_option maxRecDepth 100000 in
theorem tX7_save_32  {l : Launch} {D : va_G} {ca : Nat → ClassId} {ad : Nat → Nat} {p : Program} {e : Env} {s : State} {mm : MethodId} {args : Array Value} {below : List Frame} {meth : Method} {c : Code}  (hn : HNc ca) (X : CX p s mm args meth c cX7_save 3 RX7 D ca ad (WA ca ad s.heap.size)) (hr : meth.sig.returnType = none) (fin : Mem)  : ∀ (x1 : Nat) (m : Mem) (H : Heap) (locs : List Loc) (ls : Array Slot), ly ca x1 = (0, 0) → IW D ca ad (WA ca ad s.heap.size) s m H locs → lv_has ls 3 [(0, .ref (ad 74)), (1, .ref (ad x1))] → fX7_save_32  x1 m = some fin → W p l e rmX7_save s mm args below meth c H locs 0 0 (MQ below (QV D ca ad s.heap.size fin) args s 0 0 (WA ca ad s.heap.size)) (F0 mm 32 ls []) := by
  have hx := X.1
  have hb := X.2.1
  intro x1 m H locs ls hx1 hI hl hm
  have hm : (if (0 : Int32) < 0 ∨ ((m.1 74 1) * (24 : Int32)) < 0 ∨ (6 : Int32) < 0 ∨ 6 < (0 : Int32).toNatClampNeg + (6 : Int32).toNatClampNeg ∨ 480 < ((m.1 74 1) * (24 : Int32)).toNatClampNeg + (6 : Int32).toNatClampNeg then none else (if (0 : Int32) < 0 ∨ (((m.1 74 1) * (24 : Int32)) + (6 : Int32)) < 0 ∨ (6 : Int32) < 0 ∨ 6 < (0 : Int32).toNatClampNeg + (6 : Int32).toNatClampNeg ∨ 480 < (((m.1 74 1) * (24 : Int32)) + (6 : Int32)).toNatClampNeg + (6 : Int32).toNatClampNeg then none else (if (0 : Int32) < 0 ∨ (((m.1 74 1) * (24 : Int32)) + (12 : Int32)) < 0 ∨ (6 : Int32) < 0 ∨ 6 < (0 : Int32).toNatClampNeg + (6 : Int32).toNatClampNeg ∨ 480 < (((m.1 74 1) * (24 : Int32)) + (12 : Int32)).toNatClampNeg + (6 : Int32).toNatClampNeg then none else (if (0 : Int32) < 0 ∨ ((((m.1 74 1) * (24 : Int32)) + (12 : Int32)) + (6 : Int32)) < 0 ∨ (6 : Int32) < 0 ∨ 6 < (0 : Int32).toNatClampNeg + (6 : Int32).toNatClampNeg ∨ 480 < ((((m.1 74 1) * (24 : Int32)) + (12 : Int32)) + (6 : Int32)).toNatClampNeg + (6 : Int32).toNatClampNeg then none else (some (mI (mC (mC (mC (mC m (x1 + 1) (0 : Int32).toNatClampNeg 75 ((m.1 74 1) * (24 : Int32)).toNatClampNeg (6 : Int32).toNatClampNeg) (x1 + 2) (0 : Int32).toNatClampNeg 75 (((m.1 74 1) * (24 : Int32)) + (6 : Int32)).toNatClampNeg (6 : Int32).toNatClampNeg) (x1 + 5) (0 : Int32).toNatClampNeg 75 (((m.1 74 1) * (24 : Int32)) + (12 : Int32)).toNatClampNeg (6 : Int32).toNatClampNeg) (x1 + 8) (0 : Int32).toNatClampNeg 75 ((((m.1 74 1) * (24 : Int32)) + (12 : Int32)) + (6 : Int32)).toNatClampNeg (6 : Int32).toNatClampNeg) 74 1 (((mC (mC (mC (mC m (x1 + 1) (0 : Int32).toNatClampNeg 75 ((m.1 74 1) * (24 : Int32)).toNatClampNeg (6 : Int32).toNatClampNeg) (x1 + 2) (0 : Int32).toNatClampNeg 75 (((m.1 74 1) * (24 : Int32)) + (6 : Int32)).toNatClampNeg (6 : Int32).toNatClampNeg) (x1 + 5) (0 : Int32).toNatClampNeg 75 (((m.1 74 1) * (24 : Int32)) + (12 : Int32)).toNatClampNeg (6 : Int32).toNatClampNeg) (x1 + 8) (0 : Int32).toNatClampNeg 75 ((((m.1 74 1) * (24 : Int32)) + (12 : Int32)) + (6 : Int32)).toNatClampNeg (6 : Int32).toNatClampNeg).1 74 1) + (1 : Int32)))))))) = some fin := hm
  refine lv_aload_n hx hb dX7_save_32 rfl (lv_at hl 0 rfl) ?_
  refine gI X hI fdX7_15 (la_74 hn) dX7_save_33 ?_
  refine lv_bipush (v := (24 : Int32)) hx hb dX7_save_36 (by decide) ?_
  refine lv_imul hx hb dX7_save_38 ?_
  refine lv_istore_n (lv' := [(2, .int ((m.1 74 1) * (24 : Int32))), (0, .ref (ad 74)), (1, .ref (ad x1))]) hx hb dX7_save_39 rfl hl (by decide) rfl (fun ls hl => ?_)
  refine lv_aload_n hx hb dX7_save_40 rfl (lv_at hl 2 rfl) ?_
  refine gR X hI fdX7_25 hx1 rf0_0 dX7_save_41 ?_
  refine lv_iconst (v := (0 : Int32)) hx hb dX7_save_44 (by decide) ?_
  refine lv_aload_n hx hb dX7_save_45 rfl (lv_at hl 1 rfl) ?_
  refine gR X hI fdX7_11 (la_74 hn) rf7_0 dX7_save_46 ?_
  refine lv_iload_n hx hb dX7_save_49 rfl (lv_at hl 0 rfl) ?_
  refine lv_bipush (v := (6 : Int32)) hx hb dX7_save_50 (by decide) ?_
  obtain ⟨g2, hm⟩ := g_no hm
  refine kCopy X hI mpX7_19 hl.1 (Nat.le_of_ble_eq_true rfl) (Nat.le_of_ble_eq_true (by decide +kernel)) (lf0_0 hn hx1) (la_75 hn) dX7_save_52 g2 (fun H locs hI => ?_)
  refine lv_aload_n hx hb dX7_save_55 rfl (lv_at hl 2 rfl) ?_
  refine gR X hI fdX7_30 hx1 rf0_1 dX7_save_56 ?_
  refine lv_iconst (v := (0 : Int32)) hx hb dX7_save_59 (by decide) ?_
  refine lv_aload_n hx hb dX7_save_60 rfl (lv_at hl 1 rfl) ?_
  refine gR X hI fdX7_11 (la_74 hn) rf7_0 dX7_save_61 ?_
  refine lv_iload_n hx hb dX7_save_64 rfl (lv_at hl 0 rfl) ?_
  refine lv_bipush (v := (6 : Int32)) hx hb dX7_save_65 (by decide) ?_
  refine lv_iadd hx hb dX7_save_67 ?_
  refine lv_bipush (v := (6 : Int32)) hx hb dX7_save_68 (by decide) ?_
  obtain ⟨g3, hm⟩ := g_no hm
  refine kCopy X hI mpX7_19 hl.1 (Nat.le_of_ble_eq_true rfl) (Nat.le_of_ble_eq_true (by decide +kernel)) (lf0_1 hn hx1) (la_75 hn) dX7_save_70 g3 (fun H locs hI => ?_)
  refine lv_aload_n hx hb dX7_save_73 rfl (lv_at hl 2 rfl) ?_
  refine gR X hI fdX7_33 hx1 rf0_4 dX7_save_74 ?_
  refine lv_iconst (v := (0 : Int32)) hx hb dX7_save_77 (by decide) ?_
  refine lv_aload_n hx hb dX7_save_78 rfl (lv_at hl 1 rfl) ?_
  refine gR X hI fdX7_11 (la_74 hn) rf7_0 dX7_save_79 ?_
  refine lv_iload_n hx hb dX7_save_82 rfl (lv_at hl 0 rfl) ?_
  refine lv_bipush (v := (12 : Int32)) hx hb dX7_save_83 (by decide) ?_
  refine lv_iadd hx hb dX7_save_85 ?_
  refine lv_bipush (v := (6 : Int32)) hx hb dX7_save_86 (by decide) ?_
  obtain ⟨g4, hm⟩ := g_no hm
  refine kCopy X hI mpX7_19 hl.1 (Nat.le_of_ble_eq_true rfl) (Nat.le_of_ble_eq_true (by decide +kernel)) (lf0_4 hn hx1) (la_75 hn) dX7_save_88 g4 (fun H locs hI => ?_)
  refine lv_aload_n hx hb dX7_save_91 rfl (lv_at hl 2 rfl) ?_
  refine gR X hI fdX7_36 hx1 rf0_7 dX7_save_92 ?_
  refine lv_iconst (v := (0 : Int32)) hx hb dX7_save_95 (by decide) ?_
  refine lv_aload_n hx hb dX7_save_96 rfl (lv_at hl 1 rfl) ?_
  refine gR X hI fdX7_11 (la_74 hn) rf7_0 dX7_save_97 ?_
  refine lv_iload_n hx hb dX7_save_100 rfl (lv_at hl 0 rfl) ?_
  refine lv_bipush (v := (12 : Int32)) hx hb dX7_save_101 (by decide) ?_
  refine lv_iadd hx hb dX7_save_103 ?_
  refine lv_bipush (v := (6 : Int32)) hx hb dX7_save_104 (by decide) ?_
  refine lv_iadd hx hb dX7_save_106 ?_
  refine lv_bipush (v := (6 : Int32)) hx hb dX7_save_107 (by decide) ?_
  obtain ⟨g5, hm⟩ := g_no hm
  refine kCopy X hI mpX7_19 hl.1 (Nat.le_of_ble_eq_true rfl) (Nat.le_of_ble_eq_true (by decide +kernel)) (lf0_7 hn hx1) (la_75 hn) dX7_save_109 g5 (fun H locs hI => ?_)
  refine lv_aload_n hx hb dX7_save_112 rfl (lv_at hl 1 rfl) ?_
  refine lv_dup hx hb dX7_save_113 rfl ?_
  refine gI X hI fdX7_15 (la_74 hn) dX7_save_114 ?_
  refine lv_iconst (v := (1 : Int32)) hx hb dX7_save_117 (by decide) ?_
  refine lv_iadd hx hb dX7_save_118 ?_
  refine pI X hI fpX7_15 (la_74 hn) dX7_save_119 (fun H locs hI => ?_)
  exact rV X hI hr (g_1 hm) dX7_save_122
def fX7_save  (x1 : Nat) (m : Mem) : Option Mem := if (m.1 74 1) < (20 : Int32) then (fX7_save_32 x1 m) else (if (24 : Int32) < 0 ∨ (0 : Int32) < 0 ∨ (456 : Int32) < 0 ∨ 480 < (24 : Int32).toNatClampNeg + (456 : Int32).toNatClampNeg ∨ 480 < (0 : Int32).toNatClampNeg + (456 : Int32).toNatClampNeg then none else (fX7_save_32 x1 (mI (mC m 75 (24 : Int32).toNatClampNeg 75 (0 : Int32).toNatClampNeg (456 : Int32).toNatClampNeg) 74 1 (19 : Int32))))
set_option maxHeartbeats 4000000 in
set_option maxRecDepth 100000 in
theorem ctX7_save {l : Launch} {D : va_G} {ca : Nat → ClassId} {ad : Nat → Nat}  (x1 : Nat) (hx1 : ly ca x1 = (0, 0)) (hn : HNc ca) (m : Mem) (fin : Mem) (hm : fX7_save x1 m = some fin) : CV l D ca ad yX7_save cwX7_save rmX7_save [.ref (ad 74), .ref (ad x1)] m fin := by
  refine start (by decide) (Nat.le_of_ble_eq_true rfl) ?_
  intro p e s mm args below meth c H locs ls X hI hr hl
  have X : CX p s mm args meth c cX7_save 3 RX7 D ca ad (WA ca ad s.heap.size) := X
  have hx := X.1
  have hb := X.2.1
  have hl : lv_has ls 3 [(0, .ref (ad 74)), (1, .ref (ad x1))] := hl
  have hm : (if (m.1 74 1) < (20 : Int32) then (fX7_save_32 x1 m) else (if (24 : Int32) < 0 ∨ (0 : Int32) < 0 ∨ (456 : Int32) < 0 ∨ 480 < (24 : Int32).toNatClampNeg + (456 : Int32).toNatClampNeg ∨ 480 < (0 : Int32).toNatClampNeg + (456 : Int32).toNatClampNeg then none else (fX7_save_32 x1 (mI (mC m 75 (24 : Int32).toNatClampNeg 75 (0 : Int32).toNatClampNeg (456 : Int32).toNatClampNeg) 74 1 (19 : Int32))))) = some fin := hm
  refine lv_aload_n hx hb dX7_save_0 rfl (lv_at hl 0 rfl) ?_
  refine gI X hI fdX7_15 (la_74 hn) dX7_save_1 ?_
  refine lv_bipush (v := (20 : Int32)) hx hb dX7_save_4 (by decide) ?_
  refine lv_icmp_lt (tgt := 32) hx hb dX7_save_6 (by decide) (fun c1 => ?_) (fun c1 => ?_)
  · have hm := g_t c1 hm
    exact tX7_save_32  hn X hr fin  x1 m H locs ls hx1 hI (lv_sub hl [0, 1] rfl) hm
  · have hm := g_f c1 hm
    refine lv_aload_n hx hb dX7_save_9 rfl (lv_at hl 0 rfl) ?_
    refine gR X hI fdX7_11 (la_74 hn) rf7_0 dX7_save_10 ?_
    refine lv_bipush (v := (24 : Int32)) hx hb dX7_save_13 (by decide) ?_
    refine lv_aload_n hx hb dX7_save_15 rfl (lv_at hl 0 rfl) ?_
    refine gR X hI fdX7_11 (la_74 hn) rf7_0 dX7_save_16 ?_
    refine lv_iconst (v := (0 : Int32)) hx hb dX7_save_19 (by decide) ?_
    refine lv_sipush (v := (456 : Int32)) hx hb dX7_save_20 (by decide) ?_
    obtain ⟨g6, hm⟩ := g_no hm
    refine kCopy X hI mpX7_19 hl.1 (Nat.le_of_ble_eq_true rfl) (Nat.le_of_ble_eq_true (by decide +kernel)) (la_75 hn) (la_75 hn) dX7_save_23 g6 (fun H locs hI => ?_)
    refine lv_aload_n hx hb dX7_save_26 rfl (lv_at hl 0 rfl) ?_
    refine lv_bipush (v := (19 : Int32)) hx hb dX7_save_27 (by decide) ?_
    refine pI X hI fpX7_15 (la_74 hn) dX7_save_29 (fun H locs hI => ?_)
    exact tX7_save_32  hn X hr fin  x1 (mI (mC m 75 (24 : Int32).toNatClampNeg 75 (0 : Int32).toNatClampNeg (456 : Int32).toNatClampNeg) 74 1 (19 : Int32)) H locs ls hx1 hI (lv_sub hl [0, 1] rfl) hm
abbrev rmX7_restore : Room := { frames := 3, cells := 0, slots := 0, locals := 64 }
def fX7_restore_90 (N : Nat) : Nat → Nat → Int32 → Int32 → Mem → Option (Int32 × Mem)
  | 0, _, _, _, _ => none
  | n + 1, x1, x2, x3, m => if (6 : Int32) ≤ x3 then (some ((1 : Int32), m)) else (if ((x2 + (12 : Int32)) + x3) < 0 ∨ 480 ≤ ((x2 + (12 : Int32)) + x3).toNatClampNeg then none else ((fX0_enter x1 x3 (m.1 75 ((x2 + (12 : Int32)) + x3).toNatClampNeg) m).bind (fun q7 => if (((x2 + (12 : Int32)) + (6 : Int32)) + x3) < 0 ∨ 480 ≤ (((x2 + (12 : Int32)) + (6 : Int32)) + x3).toNatClampNeg then none else (if x3 < 0 ∨ 6 ≤ x3.toNatClampNeg then none else (fX7_restore_90 N n x1 x2 (x3 + (1 : Int32)) (mI q7.2 (x1 + 8) x3.toNatClampNeg (q7.2.1 75 (((x2 + (12 : Int32)) + (6 : Int32)) + x3).toNatClampNeg)))))))
set_option maxHeartbeats 4000000 in
set_option maxRecDepth 100000 in
theorem tX7_restore_90 (N : Nat) {l : Launch} {D : va_G} {ca : Nat → ClassId} {ad : Nat → Nat} {p : Program} {e : Env} {s : State} {mm : MethodId} {args : Array Value} {below : List Frame} {meth : Method} {c : Code}  (hn : HNc ca) (X : CX p s mm args meth c cX7_restore 4 RX7 D ca ad (WA ca ad s.heap.size)) (hr : meth.sig.returnType = (some .boolean)) (fin : (Int32 × Mem))  : ∀ (n : Nat) (x1 : Nat) (x2 : Int32) (x3 : Int32) (m : Mem) (H : Heap) (locs : List Loc) (ls : Array Slot), ly ca x1 = (0, 0) → IW D ca ad (WA ca ad s.heap.size) s m H locs → lv_has ls 4 [(0, .ref (ad 74)), (1, .ref (ad x1)), (2, .int x2), (3, .int x3)] → fX7_restore_90 N n x1 x2 x3 m = some fin → W p l e rmX7_restore s mm args below meth c H locs 0 0 (MQ below (QI D ca ad s.heap.size fin.1 fin.2) args s 0 0 (WA ca ad s.heap.size)) (F0 mm 90 ls []) := by
  have hx := X.1
  have hb := X.2.1
  intro n
  induction n with
  | zero => intro x1 x2 x3 m H locs ls hx1 hI hl hm
            exact absurd hm (by intro q; cases q)
  | succ n ih =>
    intro x1 x2 x3 m H locs ls hx1 hI hl hm
    have hm : (if (6 : Int32) ≤ x3 then (some ((1 : Int32), m)) else (if ((x2 + (12 : Int32)) + x3) < 0 ∨ 480 ≤ ((x2 + (12 : Int32)) + x3).toNatClampNeg then none else ((fX0_enter x1 x3 (m.1 75 ((x2 + (12 : Int32)) + x3).toNatClampNeg) m).bind (fun q7 => if (((x2 + (12 : Int32)) + (6 : Int32)) + x3) < 0 ∨ 480 ≤ (((x2 + (12 : Int32)) + (6 : Int32)) + x3).toNatClampNeg then none else (if x3 < 0 ∨ 6 ≤ x3.toNatClampNeg then none else (fX7_restore_90 N n x1 x2 (x3 + (1 : Int32)) (mI q7.2 (x1 + 8) x3.toNatClampNeg (q7.2.1 75 (((x2 + (12 : Int32)) + (6 : Int32)) + x3).toNatClampNeg)))))))) = some fin := hm
    refine lv_iload_n hx hb dX7_restore_90 rfl (lv_at hl 3 rfl) ?_
    refine lv_bipush (v := (6 : Int32)) hx hb dX7_restore_91 (by decide) ?_
    refine lv_icmp_ge (tgt := 139) hx hb dX7_restore_93 (by decide) (fun c5 => ?_) (fun c5 => ?_)
    · have hm := g_t c5 hm
      refine lv_iconst (v := (1 : Int32)) hx hb dX7_restore_139 (by decide) ?_
      exact rZ X hI hr (by decide) (g_p hm).1 (g_p hm).2 dX7_restore_140
    · have hm := g_f c5 hm
      refine lv_aload_n hx hb dX7_restore_96 rfl (lv_at hl 1 rfl) ?_
      refine lv_iload_n hx hb dX7_restore_97 rfl (lv_at hl 3 rfl) ?_
      refine lv_aload_n hx hb dX7_restore_98 rfl (lv_at hl 0 rfl) ?_
      refine gR X hI fdX7_11 (la_74 hn) rf7_0 dX7_restore_99 ?_
      refine lv_iload_n hx hb dX7_restore_102 rfl (lv_at hl 2 rfl) ?_
      refine lv_bipush (v := (12 : Int32)) hx hb dX7_restore_103 (by decide) ?_
      refine lv_iadd hx hb dX7_restore_105 ?_
      refine lv_iload_n hx hb dX7_restore_106 rfl (lv_at hl 3 rfl) ?_
      refine lv_iadd hx hb dX7_restore_107 ?_
      obtain ⟨g6, hm⟩ := g_no hm
      refine aI X hI (la_75 hn) g6 dX7_restore_108 ?_
      obtain ⟨q7, h8, hm⟩ := g_b hm
      refine backI X hI (runV X hI (ctX0_enter x1 x3 (m.1 75 ((x2 + (12 : Int32)) + x3).toNatClampNeg) hx1 hn _ _ h8 _) mdX7_43 hx1 rfl ⟨rfl, rfl⟩ ⟨Nat.le_of_ble_eq_true rfl, Nat.le_of_ble_eq_true rfl⟩ rfl hl.1 rfl (Nat.le_of_ble_eq_true rfl) dX7_restore_109) (fun H locs hI => ?_)
      refine lv_pop hx hb dX7_restore_112 rfl ?_
      refine lv_aload_n hx hb dX7_restore_113 rfl (lv_at hl 1 rfl) ?_
      refine gR X hI fdX7_36 hx1 rf0_7 dX7_restore_114 ?_
      refine lv_iload_n hx hb dX7_restore_117 rfl (lv_at hl 3 rfl) ?_
      refine lv_aload_n hx hb dX7_restore_118 rfl (lv_at hl 0 rfl) ?_
      refine gR X hI fdX7_11 (la_74 hn) rf7_0 dX7_restore_119 ?_
      refine lv_iload_n hx hb dX7_restore_122 rfl (lv_at hl 2 rfl) ?_
      refine lv_bipush (v := (12 : Int32)) hx hb dX7_restore_123 (by decide) ?_
      refine lv_iadd hx hb dX7_restore_125 ?_
      refine lv_bipush (v := (6 : Int32)) hx hb dX7_restore_126 (by decide) ?_
      refine lv_iadd hx hb dX7_restore_128 ?_
      refine lv_iload_n hx hb dX7_restore_129 rfl (lv_at hl 3 rfl) ?_
      refine lv_iadd hx hb dX7_restore_130 ?_
      obtain ⟨g9, hm⟩ := g_no hm
      refine aI X hI (la_75 hn) g9 dX7_restore_131 ?_
      obtain ⟨g10, hm⟩ := g_no hm
      refine sI X hI (lf0_7 hn hx1) g10 dX7_restore_132 (fun H locs hI => ?_)
      refine lv_iinc (v := (x3 + (1 : Int32))) (lv' := [(3, .int (x3 + (1 : Int32))), (0, .ref (ad 74)), (1, .ref (ad x1)), (2, .int x2)]) hx hb dX7_restore_133 hl (k := 3) rfl rfl (by decide) rfl (fun ls hl => ?_)
      refine lv_goto (tgt := 90) hx hb dX7_restore_136 (by decide) ?_
      exact ih x1 x2 (x3 + (1 : Int32)) (mI q7.2 (x1 + 8) x3.toNatClampNeg (q7.2.1 75 (((x2 + (12 : Int32)) + (6 : Int32)) + x3).toNatClampNeg)) H locs ls hx1 hI (lv_sub hl [1, 2, 3, 0] rfl) hm
def fX7_restore_55 (N : Nat) (x1 : Nat) (x2 : Int32) (m : Mem) : Option (Int32 × Mem) := if x2 < 0 ∨ (0 : Int32) < 0 ∨ (6 : Int32) < 0 ∨ 480 < x2.toNatClampNeg + (6 : Int32).toNatClampNeg ∨ 6 < (0 : Int32).toNatClampNeg + (6 : Int32).toNatClampNeg then none else (if (x2 + (6 : Int32)) < 0 ∨ (0 : Int32) < 0 ∨ (6 : Int32) < 0 ∨ 480 < (x2 + (6 : Int32)).toNatClampNeg + (6 : Int32).toNatClampNeg ∨ 6 < (0 : Int32).toNatClampNeg + (6 : Int32).toNatClampNeg then none else (fX7_restore_90 N N x1 x2 (0 : Int32) (mC (mC m 75 x2.toNatClampNeg (x1 + 1) (0 : Int32).toNatClampNeg (6 : Int32).toNatClampNeg) 75 (x2 + (6 : Int32)).toNatClampNeg (x1 + 2) (0 : Int32).toNatClampNeg (6 : Int32).toNatClampNeg)))
set_option maxHeartbeats 4000000 in
set_option maxRecDepth 100000 in
theorem tX7_restore_55 (N : Nat) {l : Launch} {D : va_G} {ca : Nat → ClassId} {ad : Nat → Nat} {p : Program} {e : Env} {s : State} {mm : MethodId} {args : Array Value} {below : List Frame} {meth : Method} {c : Code}  (hn : HNc ca) (X : CX p s mm args meth c cX7_restore 4 RX7 D ca ad (WA ca ad s.heap.size)) (hr : meth.sig.returnType = (some .boolean)) (fin : (Int32 × Mem))  : ∀ (x1 : Nat) (x2 : Int32) (m : Mem) (H : Heap) (locs : List Loc) (ls : Array Slot), ly ca x1 = (0, 0) → IW D ca ad (WA ca ad s.heap.size) s m H locs → lv_has ls 4 [(0, .ref (ad 74)), (1, .ref (ad x1)), (2, .int x2)] → fX7_restore_55 N x1 x2 m = some fin → W p l e rmX7_restore s mm args below meth c H locs 0 0 (MQ below (QI D ca ad s.heap.size fin.1 fin.2) args s 0 0 (WA ca ad s.heap.size)) (F0 mm 55 ls []) := by
  have hx := X.1
  have hb := X.2.1
  intro x1 x2 m H locs ls hx1 hI hl hm
  have hm : (if x2 < 0 ∨ (0 : Int32) < 0 ∨ (6 : Int32) < 0 ∨ 480 < x2.toNatClampNeg + (6 : Int32).toNatClampNeg ∨ 6 < (0 : Int32).toNatClampNeg + (6 : Int32).toNatClampNeg then none else (if (x2 + (6 : Int32)) < 0 ∨ (0 : Int32) < 0 ∨ (6 : Int32) < 0 ∨ 480 < (x2 + (6 : Int32)).toNatClampNeg + (6 : Int32).toNatClampNeg ∨ 6 < (0 : Int32).toNatClampNeg + (6 : Int32).toNatClampNeg then none else (fX7_restore_90 N N x1 x2 (0 : Int32) (mC (mC m 75 x2.toNatClampNeg (x1 + 1) (0 : Int32).toNatClampNeg (6 : Int32).toNatClampNeg) 75 (x2 + (6 : Int32)).toNatClampNeg (x1 + 2) (0 : Int32).toNatClampNeg (6 : Int32).toNatClampNeg)))) = some fin := hm
  refine lv_aload_n hx hb dX7_restore_55 rfl (lv_at hl 0 rfl) ?_
  refine gR X hI fdX7_11 (la_74 hn) rf7_0 dX7_restore_56 ?_
  refine lv_iload_n hx hb dX7_restore_59 rfl (lv_at hl 2 rfl) ?_
  refine lv_aload_n hx hb dX7_restore_60 rfl (lv_at hl 1 rfl) ?_
  refine gR X hI fdX7_25 hx1 rf0_0 dX7_restore_61 ?_
  refine lv_iconst (v := (0 : Int32)) hx hb dX7_restore_64 (by decide) ?_
  refine lv_bipush (v := (6 : Int32)) hx hb dX7_restore_65 (by decide) ?_
  obtain ⟨g3, hm⟩ := g_no hm
  refine kCopy X hI mpX7_19 hl.1 (Nat.le_of_ble_eq_true rfl) (Nat.le_of_ble_eq_true (by decide +kernel)) (la_75 hn) (lf0_0 hn hx1) dX7_restore_67 g3 (fun H locs hI => ?_)
  refine lv_aload_n hx hb dX7_restore_70 rfl (lv_at hl 0 rfl) ?_
  refine gR X hI fdX7_11 (la_74 hn) rf7_0 dX7_restore_71 ?_
  refine lv_iload_n hx hb dX7_restore_74 rfl (lv_at hl 2 rfl) ?_
  refine lv_bipush (v := (6 : Int32)) hx hb dX7_restore_75 (by decide) ?_
  refine lv_iadd hx hb dX7_restore_77 ?_
  refine lv_aload_n hx hb dX7_restore_78 rfl (lv_at hl 1 rfl) ?_
  refine gR X hI fdX7_30 hx1 rf0_1 dX7_restore_79 ?_
  refine lv_iconst (v := (0 : Int32)) hx hb dX7_restore_82 (by decide) ?_
  refine lv_bipush (v := (6 : Int32)) hx hb dX7_restore_83 (by decide) ?_
  obtain ⟨g4, hm⟩ := g_no hm
  refine kCopy X hI mpX7_19 hl.1 (Nat.le_of_ble_eq_true rfl) (Nat.le_of_ble_eq_true (by decide +kernel)) (la_75 hn) (lf0_1 hn hx1) dX7_restore_85 g4 (fun H locs hI => ?_)
  refine lv_iconst (v := (0 : Int32)) hx hb dX7_restore_88 (by decide) ?_
  refine lv_istore_n (lv' := [(3, .int (0 : Int32)), (0, .ref (ad 74)), (1, .ref (ad x1)), (2, .int x2)]) hx hb dX7_restore_89 rfl hl (by decide) rfl (fun ls hl => ?_)
  exact tX7_restore_90 N hn X hr fin  N x1 x2 (0 : Int32) (mC (mC m 75 x2.toNatClampNeg (x1 + 1) (0 : Int32).toNatClampNeg (6 : Int32).toNatClampNeg) 75 (x2 + (6 : Int32)).toNatClampNeg (x1 + 2) (0 : Int32).toNatClampNeg (6 : Int32).toNatClampNeg) H locs ls hx1 hI (lv_sub hl [1, 2, 3, 0] rfl) hm
def fX7_restore_38 (N : Nat) (k55 : Nat → Int32 → Mem → Option (Int32 × Mem)) : Nat → Nat → Int32 → Int32 → Mem → Option (Int32 × Mem)
  | 0, _, _, _, _ => none
  | n + 1, x1, x2, x3, m => if (6 : Int32) ≤ x3 then (k55 x1 x2 m) else ((fX0_leave x1 x3 m).bind (fun q12 => fX7_restore_38 N k55 n x1 x2 (x3 + (1 : Int32)) q12))
set_option maxHeartbeats 4000000 in
set_option maxRecDepth 100000 in
theorem tX7_restore_38 (N : Nat) {l : Launch} {D : va_G} {ca : Nat → ClassId} {ad : Nat → Nat} {p : Program} {e : Env} {s : State} {mm : MethodId} {args : Array Value} {below : List Frame} {meth : Method} {c : Code} {k55 : Nat → Int32 → Mem → Option (Int32 × Mem)} (hn : HNc ca) (X : CX p s mm args meth c cX7_restore 4 RX7 D ca ad (WA ca ad s.heap.size)) (hr : meth.sig.returnType = (some .boolean)) (fin : (Int32 × Mem)) (hk55 : ∀ (x1 : Nat) (x2 : Int32) (m : Mem) (H : Heap) (locs : List Loc) (ls : Array Slot), ly ca x1 = (0, 0) → IW D ca ad (WA ca ad s.heap.size) s m H locs → lv_has ls 4 [(0, .ref (ad 74)), (1, .ref (ad x1)), (2, .int x2)] → k55 x1 x2 m = some fin → W p l e rmX7_restore s mm args below meth c H locs 0 0 (MQ below (QI D ca ad s.heap.size fin.1 fin.2) args s 0 0 (WA ca ad s.heap.size)) (F0 mm 55 ls [])) : ∀ (n : Nat) (x1 : Nat) (x2 : Int32) (x3 : Int32) (m : Mem) (H : Heap) (locs : List Loc) (ls : Array Slot), ly ca x1 = (0, 0) → IW D ca ad (WA ca ad s.heap.size) s m H locs → lv_has ls 4 [(0, .ref (ad 74)), (1, .ref (ad x1)), (2, .int x2), (3, .int x3)] → fX7_restore_38 N k55 n x1 x2 x3 m = some fin → W p l e rmX7_restore s mm args below meth c H locs 0 0 (MQ below (QI D ca ad s.heap.size fin.1 fin.2) args s 0 0 (WA ca ad s.heap.size)) (F0 mm 38 ls []) := by
  have hx := X.1
  have hb := X.2.1
  intro n
  induction n with
  | zero => intro x1 x2 x3 m H locs ls hx1 hI hl hm
            exact absurd hm (by intro q; cases q)
  | succ n ih =>
    intro x1 x2 x3 m H locs ls hx1 hI hl hm
    have hm : (if (6 : Int32) ≤ x3 then (k55 x1 x2 m) else ((fX0_leave x1 x3 m).bind (fun q12 => fX7_restore_38 N k55 n x1 x2 (x3 + (1 : Int32)) q12))) = some fin := hm
    refine lv_iload_n hx hb dX7_restore_38 rfl (lv_at hl 3 rfl) ?_
    refine lv_bipush (v := (6 : Int32)) hx hb dX7_restore_39 (by decide) ?_
    refine lv_icmp_ge (tgt := 55) hx hb dX7_restore_41 (by decide) (fun c11 => ?_) (fun c11 => ?_)
    · have hm := g_t c11 hm
      exact hk55 x1 x2 m H locs ls hx1 hI (lv_sub hl [0, 1, 2] rfl) hm
    · have hm := g_f c11 hm
      refine lv_aload_n hx hb dX7_restore_44 rfl (lv_at hl 1 rfl) ?_
      refine lv_iload_n hx hb dX7_restore_45 rfl (lv_at hl 3 rfl) ?_
      obtain ⟨q12, h13, hm⟩ := g_b hm
      refine backV X hI (runV X hI (ctX0_leave x1 x3 hx1 hn _ _ h13 _) mdX7_39 hx1 rfl ⟨rfl, rfl⟩ ⟨Nat.le_of_ble_eq_true rfl, Nat.le_of_ble_eq_true rfl⟩ rfl hl.1 rfl (Nat.le_of_ble_eq_true rfl) dX7_restore_46) (fun H locs hI => ?_)
      refine lv_iinc (v := (x3 + (1 : Int32))) (lv' := [(3, .int (x3 + (1 : Int32))), (0, .ref (ad 74)), (1, .ref (ad x1)), (2, .int x2)]) hx hb dX7_restore_49 hl (k := 3) rfl rfl (by decide) rfl (fun ls hl => ?_)
      refine lv_goto (tgt := 38) hx hb dX7_restore_52 (by decide) ?_
      exact ih x1 x2 (x3 + (1 : Int32)) q12 H locs ls hx1 hI (lv_sub hl [1, 2, 3, 0] rfl) hm
def fX7_restore (N : Nat) (x1 : Nat) (m : Mem) : Option (Int32 × Mem) := if (m.1 74 1) ≤ 0 then (some ((0 : Int32), m)) else (if (m.1 74 1) ≤ (20 : Int32) then (fX7_restore_38 N (fX7_restore_55 N) N x1 (((mI m 74 1 ((m.1 74 1) - (1 : Int32))).1 74 1) * (24 : Int32)) (0 : Int32) (mI m 74 1 ((m.1 74 1) - (1 : Int32)))) else (some ((0 : Int32), m)))
set_option maxHeartbeats 4000000 in
set_option maxRecDepth 100000 in
theorem ctX7_restore {l : Launch} {D : va_G} {ca : Nat → ClassId} {ad : Nat → Nat} (N : Nat) (x1 : Nat) (hx1 : ly ca x1 = (0, 0)) (hn : HNc ca) (m : Mem) (fin : (Int32 × Mem)) (hm : fX7_restore N x1 m = some fin) : CI l D ca ad yX7_restore cwX7_restore rmX7_restore [.ref (ad 74), .ref (ad x1)] m fin.1 fin.2 := by
  refine start (by decide) (Nat.le_of_ble_eq_true rfl) ?_
  intro p e s mm args below meth c H locs ls X hI hr hl
  have X : CX p s mm args meth c cX7_restore 4 RX7 D ca ad (WA ca ad s.heap.size) := X
  have hx := X.1
  have hb := X.2.1
  have hl : lv_has ls 4 [(0, .ref (ad 74)), (1, .ref (ad x1))] := hl
  have hm : (if (m.1 74 1) ≤ 0 then (some ((0 : Int32), m)) else (if (m.1 74 1) ≤ (20 : Int32) then (fX7_restore_38 N (fX7_restore_55 N) N x1 (((mI m 74 1 ((m.1 74 1) - (1 : Int32))).1 74 1) * (24 : Int32)) (0 : Int32) (mI m 74 1 ((m.1 74 1) - (1 : Int32)))) else (some ((0 : Int32), m)))) = some fin := hm
  refine lv_aload_n hx hb dX7_restore_0 rfl (lv_at hl 0 rfl) ?_
  refine gI X hI fdX7_15 (la_74 hn) dX7_restore_1 ?_
  refine lv_if_le (tgt := 16) hx hb dX7_restore_4 (by decide) (fun c1 => ?_) (fun c1 => ?_)
  · have hm := g_t c1 hm
    refine lv_iconst (v := (0 : Int32)) hx hb dX7_restore_16 (by decide) ?_
    exact rZ X hI hr (by decide) (g_p hm).1 (g_p hm).2 dX7_restore_17
  · have hm := g_f c1 hm
    refine lv_aload_n hx hb dX7_restore_7 rfl (lv_at hl 0 rfl) ?_
    refine gI X hI fdX7_15 (la_74 hn) dX7_restore_8 ?_
    refine lv_bipush (v := (20 : Int32)) hx hb dX7_restore_11 (by decide) ?_
    refine lv_icmp_le (tgt := 18) hx hb dX7_restore_13 (by decide) (fun c2 => ?_) (fun c2 => ?_)
    · have hm := g_t c2 hm
      refine lv_aload_n hx hb dX7_restore_18 rfl (lv_at hl 0 rfl) ?_
      refine lv_dup hx hb dX7_restore_19 rfl ?_
      refine gI X hI fdX7_15 (la_74 hn) dX7_restore_20 ?_
      refine lv_iconst (v := (1 : Int32)) hx hb dX7_restore_23 (by decide) ?_
      refine lv_isub hx hb dX7_restore_24 ?_
      refine pI X hI fpX7_15 (la_74 hn) dX7_restore_25 (fun H locs hI => ?_)
      refine lv_aload_n hx hb dX7_restore_28 rfl (lv_at hl 0 rfl) ?_
      refine gI X hI fdX7_15 (la_74 hn) dX7_restore_29 ?_
      refine lv_bipush (v := (24 : Int32)) hx hb dX7_restore_32 (by decide) ?_
      refine lv_imul hx hb dX7_restore_34 ?_
      refine lv_istore_n (lv' := [(2, .int (((mI m 74 1 ((m.1 74 1) - (1 : Int32))).1 74 1) * (24 : Int32))), (0, .ref (ad 74)), (1, .ref (ad x1))]) hx hb dX7_restore_35 rfl hl (by decide) rfl (fun ls hl => ?_)
      refine lv_iconst (v := (0 : Int32)) hx hb dX7_restore_36 (by decide) ?_
      refine lv_istore_n (lv' := [(3, .int (0 : Int32)), (2, .int (((mI m 74 1 ((m.1 74 1) - (1 : Int32))).1 74 1) * (24 : Int32))), (0, .ref (ad 74)), (1, .ref (ad x1))]) hx hb dX7_restore_37 rfl hl (by decide) rfl (fun ls hl => ?_)
      exact tX7_restore_38 N hn X hr fin (tX7_restore_55 N hn X hr fin ) N x1 (((mI m 74 1 ((m.1 74 1) - (1 : Int32))).1 74 1) * (24 : Int32)) (0 : Int32) (mI m 74 1 ((m.1 74 1) - (1 : Int32))) H locs ls hx1 hI (lv_sub hl [2, 3, 1, 0] rfl) hm
    · have hm := g_f c2 hm
      refine lv_iconst (v := (0 : Int32)) hx hb dX7_restore_16 (by decide) ?_
      exact rZ X hI hr (by decide) (g_p hm).1 (g_p hm).2 dX7_restore_17
abbrev rmX10_byteAt : Room := { frames := 0, cells := 0, slots := 0, locals := 0 }
def fX10_byteAt  (x1 : Int32) (m : Mem) : Option Int32 := if x1 < 0 then (some (-1 : Int32)) else (if (m.1 5 2) ≤ x1 then (some (-1 : Int32)) else (if (Int32.ofNat 700) ≤ x1 then (some (-1 : Int32)) else (if x1 < 0 ∨ 700 ≤ x1.toNatClampNeg then none else (some ((m.1 1 x1.toNatClampNeg) &&& (255 : Int32))))))
set_option maxHeartbeats 4000000 in
set_option maxRecDepth 100000 in
theorem ctX10_byteAt {l : Launch} {D : va_G} {ca : Nat → ClassId} {ad : Nat → Nat}  (x1 : Int32)  (hn : HNc ca) (m : Mem) (fin : Int32) (hm : fX10_byteAt x1 m = some fin) : CI l D ca ad yX10_byteAt cwX10_byteAt rmX10_byteAt [.ref (ad 5), .int x1] m fin m := by
  refine start (by decide) (Nat.le_of_ble_eq_true rfl) ?_
  intro p e s mm args below meth c H locs ls X hI hr hl
  have X : CX p s mm args meth c cX10_byteAt 2 RX10 D ca ad (WA ca ad s.heap.size) := X
  have hx := X.1
  have hb := X.2.1
  have hl : lv_has ls 2 [(0, .ref (ad 5)), (1, .int x1)] := hl
  have hm : (if x1 < 0 then (some (-1 : Int32)) else (if (m.1 5 2) ≤ x1 then (some (-1 : Int32)) else (if (Int32.ofNat 700) ≤ x1 then (some (-1 : Int32)) else (if x1 < 0 ∨ 700 ≤ x1.toNatClampNeg then none else (some ((m.1 1 x1.toNatClampNeg) &&& (255 : Int32))))))) = some fin := hm
  have hpm : m = m := rfl
  refine lv_iload_n hx hb dX10_byteAt_0 rfl (lv_at hl 1 rfl) ?_
  refine lv_if_lt (tgt := 34) hx hb dX10_byteAt_1 (by decide) (fun c1 => ?_) (fun c1 => ?_)
  · have hm := g_t c1 hm
    refine lv_iconst (v := (-1 : Int32)) hx hb dX10_byteAt_34 (by decide) ?_
    exact rI X hI hr (g_1 hm) hpm dX10_byteAt_35
  · have hm := g_f c1 hm
    refine lv_iload_n hx hb dX10_byteAt_4 rfl (lv_at hl 1 rfl) ?_
    refine lv_aload_n hx hb dX10_byteAt_5 rfl (lv_at hl 0 rfl) ?_
    refine gI X hI fdX10_33 (la_5 hn) dX10_byteAt_6 ?_
    refine lv_icmp_ge (tgt := 34) hx hb dX10_byteAt_9 (by decide) (fun c2 => ?_) (fun c2 => ?_)
    · have hm := g_t c2 hm
      refine lv_iconst (v := (-1 : Int32)) hx hb dX10_byteAt_34 (by decide) ?_
      exact rI X hI hr (g_1 hm) hpm dX10_byteAt_35
    · have hm := g_f c2 hm
      refine lv_iload_n hx hb dX10_byteAt_12 rfl (lv_at hl 1 rfl) ?_
      refine lv_aload_n hx hb dX10_byteAt_13 rfl (lv_at hl 0 rfl) ?_
      refine gR X hI fdX10_13 (la_5 hn) rf10_0 dX10_byteAt_14 ?_
      refine nB X hI (la_1 hn) dX10_byteAt_17 ?_
      refine lv_icmp_ge (tgt := 34) hx hb dX10_byteAt_18 (by decide) (fun c3 => ?_) (fun c3 => ?_)
      · have hm := g_t c3 hm
        refine lv_iconst (v := (-1 : Int32)) hx hb dX10_byteAt_34 (by decide) ?_
        exact rI X hI hr (g_1 hm) hpm dX10_byteAt_35
      · have hm := g_f c3 hm
        refine lv_aload_n hx hb dX10_byteAt_21 rfl (lv_at hl 0 rfl) ?_
        refine gR X hI fdX10_13 (la_5 hn) rf10_0 dX10_byteAt_22 ?_
        refine lv_iload_n hx hb dX10_byteAt_25 rfl (lv_at hl 1 rfl) ?_
        obtain ⟨g4, hm⟩ := g_no hm
        refine aB X hI (la_1 hn) g4 dX10_byteAt_26 ?_
        refine lv_sipush (v := (255 : Int32)) hx hb dX10_byteAt_27 (by decide) ?_
        refine lv_iand hx hb dX10_byteAt_30 ?_
        refine lv_goto (tgt := 35) hx hb dX10_byteAt_31 (by decide) ?_
        exact rI X hI hr (g_1 hm) hpm dX10_byteAt_35
abbrev rmX10_isBlank : Room := { frames := 0, cells := 0, slots := 0, locals := 0 }
def fX10_isBlank  (x0 : Int32) (m : Mem) : Option Int32 := if x0 = (10 : Int32) then (some (1 : Int32)) else (if x0 = (32 : Int32) then (some (1 : Int32)) else (some (0 : Int32)))
set_option maxHeartbeats 4000000 in
set_option maxRecDepth 100000 in
theorem ctX10_isBlank {l : Launch} {D : va_G} {ca : Nat → ClassId} {ad : Nat → Nat}  (x0 : Int32)  (hn : HNc ca) (m : Mem) (fin : Int32) (hm : fX10_isBlank x0 m = some fin) : CI l D ca ad yX10_isBlank cwX10_isBlank rmX10_isBlank [.int x0] m fin m := by
  refine start (by decide) (Nat.le_of_ble_eq_true rfl) ?_
  intro p e s mm args below meth c H locs ls X hI hr hl
  have X : CX p s mm args meth c cX10_isBlank 1 RX10 D ca ad (WA ca ad s.heap.size) := X
  have hx := X.1
  have hb := X.2.1
  have hl : lv_has ls 1 [(0, .int x0)] := hl
  have hm : (if x0 = (10 : Int32) then (some (1 : Int32)) else (if x0 = (32 : Int32) then (some (1 : Int32)) else (some (0 : Int32)))) = some fin := hm
  have hpm : m = m := rfl
  refine lv_iload_n hx hb dX10_isBlank_0 rfl (lv_at hl 0 rfl) ?_
  refine lv_bipush (v := (10 : Int32)) hx hb dX10_isBlank_1 (by decide) ?_
  refine lv_icmp_eq (tgt := 12) hx hb dX10_isBlank_3 (by decide) (fun c1 => ?_) (fun c1 => ?_)
  · have hm := g_t c1 hm
    refine lv_iconst (v := (1 : Int32)) hx hb dX10_isBlank_12 (by decide) ?_
    refine lv_goto (tgt := 17) hx hb dX10_isBlank_13 (by decide) ?_
    exact rZ X hI hr (by decide) (g_1 hm) hpm dX10_isBlank_17
  · have hm := g_f c1 hm
    refine lv_iload_n hx hb dX10_isBlank_6 rfl (lv_at hl 0 rfl) ?_
    refine lv_bipush (v := (32 : Int32)) hx hb dX10_isBlank_7 (by decide) ?_
    refine lv_icmp_ne (tgt := 16) hx hb dX10_isBlank_9 (by decide) (fun c2 => ?_) (fun c2 => ?_)
    · have hm := g_f c2 hm
      refine lv_iconst (v := (0 : Int32)) hx hb dX10_isBlank_16 (by decide) ?_
      exact rZ X hI hr (by decide) (g_1 hm) hpm dX10_isBlank_17
    · have hm := g_t c2 hm
      refine lv_iconst (v := (1 : Int32)) hx hb dX10_isBlank_12 (by decide) ?_
      refine lv_goto (tgt := 17) hx hb dX10_isBlank_13 (by decide) ?_
      exact rZ X hI hr (by decide) (g_1 hm) hpm dX10_isBlank_17
abbrev rmX10_isLetter : Room := { frames := 0, cells := 0, slots := 0, locals := 0 }
def fX10_isLetter  (x0 : Int32) (m : Mem) : Option Int32 := if x0 < (97 : Int32) then (some (0 : Int32)) else (if (122 : Int32) < x0 then (some (0 : Int32)) else (some (1 : Int32)))
set_option maxHeartbeats 4000000 in
set_option maxRecDepth 100000 in
theorem ctX10_isLetter {l : Launch} {D : va_G} {ca : Nat → ClassId} {ad : Nat → Nat}  (x0 : Int32)  (hn : HNc ca) (m : Mem) (fin : Int32) (hm : fX10_isLetter x0 m = some fin) : CI l D ca ad yX10_isLetter cwX10_isLetter rmX10_isLetter [.int x0] m fin m := by
  refine start (by decide) (Nat.le_of_ble_eq_true rfl) ?_
  intro p e s mm args below meth c H locs ls X hI hr hl
  have X : CX p s mm args meth c cX10_isLetter 1 RX10 D ca ad (WA ca ad s.heap.size) := X
  have hx := X.1
  have hb := X.2.1
  have hl : lv_has ls 1 [(0, .int x0)] := hl
  have hm : (if x0 < (97 : Int32) then (some (0 : Int32)) else (if (122 : Int32) < x0 then (some (0 : Int32)) else (some (1 : Int32)))) = some fin := hm
  have hpm : m = m := rfl
  refine lv_iload_n hx hb dX10_isLetter_0 rfl (lv_at hl 0 rfl) ?_
  refine lv_bipush (v := (97 : Int32)) hx hb dX10_isLetter_1 (by decide) ?_
  refine lv_icmp_lt (tgt := 16) hx hb dX10_isLetter_3 (by decide) (fun c1 => ?_) (fun c1 => ?_)
  · have hm := g_t c1 hm
    refine lv_iconst (v := (0 : Int32)) hx hb dX10_isLetter_16 (by decide) ?_
    exact rZ X hI hr (by decide) (g_1 hm) hpm dX10_isLetter_17
  · have hm := g_f c1 hm
    refine lv_iload_n hx hb dX10_isLetter_6 rfl (lv_at hl 0 rfl) ?_
    refine lv_bipush (v := (122 : Int32)) hx hb dX10_isLetter_7 (by decide) ?_
    refine lv_icmp_gt (tgt := 16) hx hb dX10_isLetter_9 (by decide) (fun c2 => ?_) (fun c2 => ?_)
    · have hm := g_t c2 hm
      refine lv_iconst (v := (0 : Int32)) hx hb dX10_isLetter_16 (by decide) ?_
      exact rZ X hI hr (by decide) (g_1 hm) hpm dX10_isLetter_17
    · have hm := g_f c2 hm
      refine lv_iconst (v := (1 : Int32)) hx hb dX10_isLetter_12 (by decide) ?_
      refine lv_goto (tgt := 17) hx hb dX10_isLetter_13 (by decide) ?_
      exact rZ X hI hr (by decide) (g_1 hm) hpm dX10_isLetter_17
abbrev rmX10_placed : Room := { frames := 0, cells := 0, slots := 0, locals := 0 }
def fX10_placed  (x0 : Int32) (x1 : Int32) (m : Mem) : Option Int32 := if (6 : Int32) ≤ x1 then (some (0 : Int32)) else (some (((x0 - (97 : Int32)) + (1 : Int32)) <<< (((5 : Int32) * ((5 : Int32) - x1)) &&& 31)))
set_option maxHeartbeats 4000000 in
set_option maxRecDepth 100000 in
theorem ctX10_placed {l : Launch} {D : va_G} {ca : Nat → ClassId} {ad : Nat → Nat}  (x0 : Int32) (x1 : Int32)  (hn : HNc ca) (m : Mem) (fin : Int32) (hm : fX10_placed x0 x1 m = some fin) : CI l D ca ad yX10_placed cwX10_placed rmX10_placed [.int x0, .int x1] m fin m := by
  refine start (by decide) (Nat.le_of_ble_eq_true rfl) ?_
  intro p e s mm args below meth c H locs ls X hI hr hl
  have X : CX p s mm args meth c cX10_placed 2 RX10 D ca ad (WA ca ad s.heap.size) := X
  have hx := X.1
  have hb := X.2.1
  have hl : lv_has ls 2 [(0, .int x0), (1, .int x1)] := hl
  have hm : (if (6 : Int32) ≤ x1 then (some (0 : Int32)) else (some (((x0 - (97 : Int32)) + (1 : Int32)) <<< (((5 : Int32) * ((5 : Int32) - x1)) &&& 31)))) = some fin := hm
  have hpm : m = m := rfl
  refine lv_iload_n hx hb dX10_placed_0 rfl (lv_at hl 1 rfl) ?_
  refine lv_bipush (v := (6 : Int32)) hx hb dX10_placed_1 (by decide) ?_
  refine lv_icmp_ge (tgt := 21) hx hb dX10_placed_3 (by decide) (fun c1 => ?_) (fun c1 => ?_)
  · have hm := g_t c1 hm
    refine lv_iconst (v := (0 : Int32)) hx hb dX10_placed_21 (by decide) ?_
    exact rI X hI hr (g_1 hm) hpm dX10_placed_22
  · have hm := g_f c1 hm
    refine lv_iload_n hx hb dX10_placed_6 rfl (lv_at hl 0 rfl) ?_
    refine lv_bipush (v := (97 : Int32)) hx hb dX10_placed_7 (by decide) ?_
    refine lv_isub hx hb dX10_placed_9 ?_
    refine lv_iconst (v := (1 : Int32)) hx hb dX10_placed_10 (by decide) ?_
    refine lv_iadd hx hb dX10_placed_11 ?_
    refine lv_iconst (v := (5 : Int32)) hx hb dX10_placed_12 (by decide) ?_
    refine lv_iconst (v := (5 : Int32)) hx hb dX10_placed_13 (by decide) ?_
    refine lv_iload_n hx hb dX10_placed_14 rfl (lv_at hl 1 rfl) ?_
    refine lv_isub hx hb dX10_placed_15 ?_
    refine lv_imul hx hb dX10_placed_16 ?_
    refine lv_ishl hx hb dX10_placed_17 ?_
    refine lv_goto (tgt := 22) hx hb dX10_placed_18 (by decide) ?_
    exact rI X hI hr (g_1 hm) hpm dX10_placed_22
abbrev rmX10_kindOf : Room := { frames := 0, cells := 0, slots := 0, locals := 0 }
def fX10_kindOf_2 (N : Nat) : Nat → Int32 → Int32 → Mem → Option Int32
  | 0, _, _, _ => none
  | n + 1, x1, x2, m => if (Int32.ofNat 21) ≤ x2 then (some (-3 : Int32)) else (if x2 < 0 ∨ 21 ≤ x2.toNatClampNeg then none else (if (m.1 6 x2.toNatClampNeg) = x1 then (some x2) else (fX10_kindOf_2 N n x1 (x2 + (1 : Int32)) m)))
set_option maxHeartbeats 4000000 in
set_option maxRecDepth 100000 in
theorem tX10_kindOf_2 (N : Nat) {l : Launch} {D : va_G} {ca : Nat → ClassId} {ad : Nat → Nat} {p : Program} {e : Env} {s : State} {mm : MethodId} {args : Array Value} {below : List Frame} {meth : Method} {c : Code}  (hn : HNc ca) (X : CX p s mm args meth c cX10_kindOf 3 RX10 D ca ad (WA ca ad s.heap.size)) (hr : meth.sig.returnType = (some .int)) (fin : Int32) (m0 : Mem)  : ∀ (n : Nat) (x1 : Int32) (x2 : Int32) (m : Mem) (H : Heap) (locs : List Loc) (ls : Array Slot), IW D ca ad (WA ca ad s.heap.size) s m H locs → lv_has ls 3 [(0, .ref (ad 5)), (1, .int x1), (2, .int x2)] → fX10_kindOf_2 N n x1 x2 m = some fin → m = m0 → W p l e rmX10_kindOf s mm args below meth c H locs 0 0 (MQ below (QI D ca ad s.heap.size fin m0) args s 0 0 (WA ca ad s.heap.size)) (F0 mm 2 ls []) := by
  have hx := X.1
  have hb := X.2.1
  intro n
  induction n with
  | zero => intro x1 x2 m H locs ls hI hl hm hpm
            exact absurd hm (by intro q; cases q)
  | succ n ih =>
    intro x1 x2 m H locs ls hI hl hm hpm
    have hm : (if (Int32.ofNat 21) ≤ x2 then (some (-3 : Int32)) else (if x2 < 0 ∨ 21 ≤ x2.toNatClampNeg then none else (if (m.1 6 x2.toNatClampNeg) = x1 then (some x2) else (fX10_kindOf_2 N n x1 (x2 + (1 : Int32)) m)))) = some fin := hm
    refine lv_iload_n hx hb dX10_kindOf_2 rfl (lv_at hl 2 rfl) ?_
    refine lv_aload_n hx hb dX10_kindOf_3 rfl (lv_at hl 0 rfl) ?_
    refine gR X hI fdX10_9 (la_5 hn) rf10_1 dX10_kindOf_4 ?_
    refine nA X hI (la_6 hn) dX10_kindOf_7 ?_
    refine lv_icmp_ge (tgt := 29) hx hb dX10_kindOf_8 (by decide) (fun c1 => ?_) (fun c1 => ?_)
    · have hm := g_t c1 hm
      refine lv_bipush (v := (-3 : Int32)) hx hb dX10_kindOf_29 (by decide) ?_
      exact rI X hI hr (g_1 hm) hpm dX10_kindOf_31
    · have hm := g_f c1 hm
      refine lv_aload_n hx hb dX10_kindOf_11 rfl (lv_at hl 0 rfl) ?_
      refine gR X hI fdX10_9 (la_5 hn) rf10_1 dX10_kindOf_12 ?_
      refine lv_iload_n hx hb dX10_kindOf_15 rfl (lv_at hl 2 rfl) ?_
      obtain ⟨g2, hm⟩ := g_no hm
      refine aI X hI (la_6 hn) g2 dX10_kindOf_16 ?_
      refine lv_iload_n hx hb dX10_kindOf_17 rfl (lv_at hl 1 rfl) ?_
      refine lv_icmp_ne (tgt := 23) hx hb dX10_kindOf_18 (by decide) (fun c3 => ?_) (fun c3 => ?_)
      · have hm := g_f c3 hm
        refine lv_iinc (v := (x2 + (1 : Int32))) (lv' := [(2, .int (x2 + (1 : Int32))), (0, .ref (ad 5)), (1, .int x1)]) hx hb dX10_kindOf_23 hl (k := 2) rfl rfl (by decide) rfl (fun ls hl => ?_)
        refine lv_goto (tgt := 2) hx hb dX10_kindOf_26 (by decide) ?_
        exact ih x1 (x2 + (1 : Int32)) m H locs ls hI (lv_sub hl [1, 2, 0] rfl) hm hpm
      · have hm := g_t c3 hm
        refine lv_iload_n hx hb dX10_kindOf_21 rfl (lv_at hl 2 rfl) ?_
        exact rI X hI hr (g_1 hm) hpm dX10_kindOf_22
def fX10_kindOf (N : Nat) (x1 : Int32) (m : Mem) : Option Int32 := fX10_kindOf_2 N N x1 (0 : Int32) m
set_option maxHeartbeats 4000000 in
set_option maxRecDepth 100000 in
theorem ctX10_kindOf {l : Launch} {D : va_G} {ca : Nat → ClassId} {ad : Nat → Nat} (N : Nat) (x1 : Int32)  (hn : HNc ca) (m : Mem) (fin : Int32) (hm : fX10_kindOf N x1 m = some fin) : CI l D ca ad yX10_kindOf cwX10_kindOf rmX10_kindOf [.ref (ad 5), .int x1] m fin m := by
  refine start (by decide) (Nat.le_of_ble_eq_true rfl) ?_
  intro p e s mm args below meth c H locs ls X hI hr hl
  have X : CX p s mm args meth c cX10_kindOf 3 RX10 D ca ad (WA ca ad s.heap.size) := X
  have hx := X.1
  have hb := X.2.1
  have hl : lv_has ls 3 [(0, .ref (ad 5)), (1, .int x1)] := hl
  have hm : (fX10_kindOf_2 N N x1 (0 : Int32) m) = some fin := hm
  have hpm : m = m := rfl
  refine lv_iconst (v := (0 : Int32)) hx hb dX10_kindOf_0 (by decide) ?_
  refine lv_istore_n (lv' := [(2, .int (0 : Int32)), (0, .ref (ad 5)), (1, .int x1)]) hx hb dX10_kindOf_1 rfl hl (by decide) rfl (fun ls hl => ?_)
  exact tX10_kindOf_2 N hn X hr fin m  N x1 (0 : Int32) m H locs ls hI (lv_sub hl [1, 2, 0] rfl) hm hpm
