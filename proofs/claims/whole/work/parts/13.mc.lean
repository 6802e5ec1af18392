abbrev rmX5_within : Room := { frames := 0, cells := 0, slots := 0, locals := 0 }
def fX5_within  (x0 : Int64) (x2 : Int32) (x3 : Int32) (m : Mem) : Option Int32 := if 0 ≤ (lg_cmp x0 x2.toInt64) then (if (lg_cmp x0 x3.toInt64) ≤ 0 then (some x0.toInt32) else (some x3)) else (some x2)
set_option maxHeartbeats 4000000 in
set_option maxRecDepth 100000 in
theorem ctX5_within {l : Launch} {D : va_G} {ca : Nat → ClassId} {ad : Nat → Nat}  (x0 : Int64) (x2 : Int32) (x3 : Int32)  (hn : HNc ca) (m : Mem) (fin : Int32) (hm : fX5_within x0 x2 x3 m = some fin) : CI l D ca ad yX5_within cwX5_within rmX5_within [.long x0, .int x2, .int x3] m fin m := by
  refine start (by decide) (Nat.le_of_ble_eq_true rfl) ?_
  intro p e s mm args below meth c H locs ls X hI hr hl
  have X : CX p s mm args meth c cX5_within 4 RX5 D ca ad (WA ca ad s.heap.size) := X
  have hx := X.1
  have hb := X.2.1
  have hl : lv_has ls 4 [(0, .long x0), (2, .int x2), (3, .int x3)] := hl
  have hm : (if 0 ≤ (lg_cmp x0 x2.toInt64) then (if (lg_cmp x0 x3.toInt64) ≤ 0 then (some x0.toInt32) else (some x3)) else (some x2)) = some fin := hm
  have hpm : m = m := rfl
  refine lv_lload_n hx hb dX5_within_0 rfl (lv_at hl 0 rfl) ?_
  refine lv_iload_n hx hb dX5_within_1 rfl (lv_at hl 1 rfl) ?_
  refine lv_i2l hx hb dX5_within_2 rfl ?_
  refine W.lcmp hx hb dX5_within_3 ?_
  refine lv_if_ge (tgt := 11) hx hb dX5_within_4 (by decide) (fun c1 => ?_) (fun c1 => ?_)
  · have hm := g_t c1 hm
    refine lv_lload_n hx hb dX5_within_11 rfl (lv_at hl 0 rfl) ?_
    refine lv_iload_n hx hb dX5_within_12 rfl (lv_at hl 2 rfl) ?_
    refine lv_i2l hx hb dX5_within_13 rfl ?_
    refine W.lcmp hx hb dX5_within_14 ?_
    refine lv_if_le (tgt := 22) hx hb dX5_within_15 (by decide) (fun c2 => ?_) (fun c2 => ?_)
    · have hm := g_t c2 hm
      refine lv_lload_n hx hb dX5_within_22 rfl (lv_at hl 0 rfl) ?_
      refine lv_l2i hx hb dX5_within_23 rfl ?_
      exact rI X hI hr (g_1 hm) hpm dX5_within_24
    · have hm := g_f c2 hm
      refine lv_iload_n hx hb dX5_within_18 rfl (lv_at hl 2 rfl) ?_
      refine lv_goto (tgt := 24) hx hb dX5_within_19 (by decide) ?_
      exact rI X hI hr (g_1 hm) hpm dX5_within_24
  · have hm := g_f c1 hm
    refine lv_iload_n hx hb dX5_within_7 rfl (lv_at hl 1 rfl) ?_
    refine lv_goto (tgt := 24) hx hb dX5_within_8 (by decide) ?_
    exact rI X hI hr (g_1 hm) hpm dX5_within_24
abbrev rmX5_coolTubs : Room := { frames := 3, cells := 0, slots := 0, locals := 79 }
def fX5_coolTubs_64 (N : Nat) (k2 : Nat → Nat → Int32 → Mem → Option Mem) (x0 : Nat) (x1 : Nat) (x2 : Int32) (y0 : Int32) (m : Mem) : Option Mem := if x2 < 0 ∨ 6 ≤ x2.toNatClampNeg then none else (if x2 < 0 ∨ 6 ≤ x2.toNatClampNeg then none else (k2 x0 x1 (x2 + (1 : Int32)) (mI m (x1 + 2) x2.toNatClampNeg (imax (0 : Int32) ((m.1 (x1 + 2) x2.toNatClampNeg) - y0)))))
set_option maxHeartbeats 4000000 in
set_option maxRecDepth 100000 in
theorem tX5_coolTubs_64 (N : Nat) {l : Launch} {D : va_G} {ca : Nat → ClassId} {ad : Nat → Nat} {p : Program} {e : Env} {s : State} {mm : MethodId} {args : Array Value} {below : List Frame} {meth : Method} {c : Code} {k2 : Nat → Nat → Int32 → Mem → Option Mem} (hn : HNc ca) (X : CX p s mm args meth c cX5_coolTubs 6 RX5 D ca ad (WA ca ad s.heap.size)) (hr : meth.sig.returnType = none) (fin : Mem) (hk2 : ∀ (x0 : Nat) (x1 : Nat) (x2 : Int32) (m : Mem) (H : Heap) (locs : List Loc) (ls : Array Slot), ly ca x0 = (0, 6) → ly ca x1 = (0, 0) → IW D ca ad (WA ca ad s.heap.size) s m H locs → lv_has ls 6 [(0, .ref (ad x0)), (1, .ref (ad x1)), (2, .int x2)] → k2 x0 x1 x2 m = some fin → W p l e rmX5_coolTubs s mm args below meth c H locs 0 0 (MQ below (QV D ca ad s.heap.size fin) args s 0 0 (WA ca ad s.heap.size)) (F0 mm 2 ls [])) : ∀ (x0 : Nat) (x1 : Nat) (x2 : Int32) (y0 : Int32) (m : Mem) (H : Heap) (locs : List Loc) (ls : Array Slot), ly ca x0 = (0, 6) → ly ca x1 = (0, 0) → IW D ca ad (WA ca ad s.heap.size) s m H locs → lv_has ls 6 [(0, .ref (ad x0)), (1, .ref (ad x1)), (2, .int x2)] → fX5_coolTubs_64 N k2 x0 x1 x2 y0 m = some fin → W p l e rmX5_coolTubs s mm args below meth c H locs 0 0 (MQ below (QV D ca ad s.heap.size fin) args s 0 0 (WA ca ad s.heap.size)) (F0 mm 64 ls [.int y0]) := by
  have hx := X.1
  have hb := X.2.1
  intro x0 x1 x2 y0 m H locs ls hx0 hx1 hI hl hm
  have hm : (if x2 < 0 ∨ 6 ≤ x2.toNatClampNeg then none else (if x2 < 0 ∨ 6 ≤ x2.toNatClampNeg then none else (k2 x0 x1 (x2 + (1 : Int32)) (mI m (x1 + 2) x2.toNatClampNeg (imax (0 : Int32) ((m.1 (x1 + 2) x2.toNatClampNeg) - y0)))))) = some fin := hm
  refine lv_istore (lv' := [(5, .int y0), (0, .ref (ad x0)), (1, .ref (ad x1)), (2, .int x2)]) hx hb dX5_coolTubs_64 hl (by decide) rfl (fun ls hl => ?_)
  refine lv_aload_n hx hb dX5_coolTubs_66 rfl (lv_at hl 2 rfl) ?_
  refine gR X hI fdX5_101 hx1 rf0_1 dX5_coolTubs_67 ?_
  refine lv_iload_n hx hb dX5_coolTubs_70 rfl (lv_at hl 3 rfl) ?_
  refine lv_iconst (v := (0 : Int32)) hx hb dX5_coolTubs_71 (by decide) ?_
  refine lv_aload_n hx hb dX5_coolTubs_72 rfl (lv_at hl 2 rfl) ?_
  refine gR X hI fdX5_101 hx1 rf0_1 dX5_coolTubs_73 ?_
  refine lv_iload_n hx hb dX5_coolTubs_76 rfl (lv_at hl 3 rfl) ?_
  obtain ⟨g8, hm⟩ := g_no hm
  refine aI X hI (lf0_1 hn hx1) g8 dX5_coolTubs_77 ?_
  refine lv_iload hx hb dX5_coolTubs_78 (lv_at hl 0 rfl) ?_
  refine lv_isub hx hb dX5_coolTubs_80 ?_
  refine kMax X mpX5_113 hl.1 (Nat.le_of_ble_eq_true rfl) (Nat.le_of_ble_eq_true rfl) dX5_coolTubs_81 ?_
  obtain ⟨g9, hm⟩ := g_no hm
  refine sI X hI (lf0_1 hn hx1) g9 dX5_coolTubs_84 (fun H locs hI => ?_)
  refine lv_iinc (v := (x2 + (1 : Int32))) (lv' := [(2, .int (x2 + (1 : Int32))), (5, .int y0), (0, .ref (ad x0)), (1, .ref (ad x1))]) hx hb dX5_coolTubs_85 hl (k := 3) rfl rfl (by decide) rfl (fun ls hl => ?_)
  refine lv_goto (tgt := 2) hx hb dX5_coolTubs_88 (by decide) ?_
  exact hk2 x0 x1 (x2 + (1 : Int32)) (mI m (x1 + 2) x2.toNatClampNeg (imax (0 : Int32) ((m.1 (x1 + 2) x2.toNatClampNeg) - y0))) H locs ls hx0 hx1 hI (lv_sub hl [2, 3, 0] rfl) hm
def fX5_coolTubs_2 (N : Nat) : Nat → Nat → Nat → Int32 → Mem → Option Mem
  | 0, _, _, _, _ => none
  | n + 1, x0, x1, x2, m => if (m.1 (x0 + 3) 2) ≤ x2 then (some m) else (if (6 : Int32) ≤ x2 then (some m) else ((fX6_worthOf N x0 (0 : Int32) x1 (-1 : Int32) x2 (0 : Int32) m).bind (fun q3 => if (lg_cmp q3.1 (-9223372036854775808 : Int64)) = 0 then (if x2 < 0 ∨ 6 ≤ x2.toNatClampNeg then none else (fX5_coolTubs_64 N (fun x0 x1 x2 m => fX5_coolTubs_2 N n x0 x1 x2 m) x0 x1 x2 (imax (0 : Int32) (((q3.2.1 (x1 + 2) x2.toNatClampNeg) - (200 : Int32)) / (50 : Int32))) q3.2)) else ((fX5_within q3.1 (0 : Int32) (99 : Int32) q3.2).bind (fun q6 => fX5_coolTubs_64 N (fun x0 x1 x2 m => fX5_coolTubs_2 N n x0 x1 x2 m) x0 x1 x2 q6 q3.2)))))
set_option maxHeartbeats 4000000 in
set_option maxRecDepth 100000 in
theorem tX5_coolTubs_2 (N : Nat) {l : Launch} {D : va_G} {ca : Nat → ClassId} {ad : Nat → Nat} {p : Program} {e : Env} {s : State} {mm : MethodId} {args : Array Value} {below : List Frame} {meth : Method} {c : Code}  (hn : HNc ca) (X : CX p s mm args meth c cX5_coolTubs 6 RX5 D ca ad (WA ca ad s.heap.size)) (hr : meth.sig.returnType = none) (fin : Mem)  : ∀ (n : Nat) (x0 : Nat) (x1 : Nat) (x2 : Int32) (m : Mem) (H : Heap) (locs : List Loc) (ls : Array Slot), ly ca x0 = (0, 6) → ly ca x1 = (0, 0) → IW D ca ad (WA ca ad s.heap.size) s m H locs → lv_has ls 6 [(0, .ref (ad x0)), (1, .ref (ad x1)), (2, .int x2)] → fX5_coolTubs_2 N n x0 x1 x2 m = some fin → W p l e rmX5_coolTubs s mm args below meth c H locs 0 0 (MQ below (QV D ca ad s.heap.size fin) args s 0 0 (WA ca ad s.heap.size)) (F0 mm 2 ls []) := by
  have hx := X.1
  have hb := X.2.1
  intro n
  induction n with
  | zero => intro x0 x1 x2 m H locs ls hx0 hx1 hI hl hm
            exact absurd hm (by intro q; cases q)
  | succ n ih =>
    intro x0 x1 x2 m H locs ls hx0 hx1 hI hl hm
    have hm : (if (m.1 (x0 + 3) 2) ≤ x2 then (some m) else (if (6 : Int32) ≤ x2 then (some m) else ((fX6_worthOf N x0 (0 : Int32) x1 (-1 : Int32) x2 (0 : Int32) m).bind (fun q3 => if (lg_cmp q3.1 (-9223372036854775808 : Int64)) = 0 then (if x2 < 0 ∨ 6 ≤ x2.toNatClampNeg then none else (fX5_coolTubs_64 N (fun x0 x1 x2 m => fX5_coolTubs_2 N n x0 x1 x2 m) x0 x1 x2 (imax (0 : Int32) (((q3.2.1 (x1 + 2) x2.toNatClampNeg) - (200 : Int32)) / (50 : Int32))) q3.2)) else ((fX5_within q3.1 (0 : Int32) (99 : Int32) q3.2).bind (fun q6 => fX5_coolTubs_64 N (fun x0 x1 x2 m => fX5_coolTubs_2 N n x0 x1 x2 m) x0 x1 x2 q6 q3.2)))))) = some fin := hm
    refine lv_iload_n hx hb dX5_coolTubs_2 rfl (lv_at hl 2 rfl) ?_
    refine lv_aload_n hx hb dX5_coolTubs_3 rfl (lv_at hl 0 rfl) ?_
    refine gR X hI fdX5_104 hx0 rf6_1 dX5_coolTubs_4 ?_
    refine gI X hI fdX5_63 (lf6_1 hn hx0) dX5_coolTubs_7 ?_
    refine lv_icmp_ge (tgt := 91) hx hb dX5_coolTubs_10 (by decide) (fun c1 => ?_) (fun c1 => ?_)
    · have hm := g_t c1 hm
      exact rV X hI hr (g_1 hm) dX5_coolTubs_91
    · have hm := g_f c1 hm
      refine lv_iload_n hx hb dX5_coolTubs_13 rfl (lv_at hl 2 rfl) ?_
      refine lv_bipush (v := (6 : Int32)) hx hb dX5_coolTubs_14 (by decide) ?_
      refine lv_icmp_ge (tgt := 91) hx hb dX5_coolTubs_16 (by decide) (fun c2 => ?_) (fun c2 => ?_)
      · have hm := g_t c2 hm
        exact rV X hI hr (g_1 hm) dX5_coolTubs_91
      · have hm := g_f c2 hm
        refine lv_aload_n hx hb dX5_coolTubs_19 rfl (lv_at hl 0 rfl) ?_
        refine lv_iconst (v := (0 : Int32)) hx hb dX5_coolTubs_20 (by decide) ?_
        refine lv_aload_n hx hb dX5_coolTubs_21 rfl (lv_at hl 1 rfl) ?_
        refine lv_iconst (v := (-1 : Int32)) hx hb dX5_coolTubs_22 (by decide) ?_
        refine lv_iload_n hx hb dX5_coolTubs_23 rfl (lv_at hl 2 rfl) ?_
        refine lv_iconst (v := (0 : Int32)) hx hb dX5_coolTubs_24 (by decide) ?_
        obtain ⟨q3, h4, hm⟩ := g_b hm
        refine backL X hI (runV X hI (ctX6_worthOf N x0 (0 : Int32) x1 (-1 : Int32) x2 (0 : Int32) hx0 hx1 hn _ _ h4 _) mdX5_107 hx0 rfl ⟨rfl, rfl⟩ ⟨Nat.le_of_ble_eq_true rfl, Nat.le_of_ble_eq_true rfl⟩ rfl hl.1 rfl (Nat.le_of_ble_eq_true rfl) dX5_coolTubs_25) (fun H locs hI => ?_)
        refine lv_lstore_n (lv' := [(3, .long q3.1), (0, .ref (ad x0)), (1, .ref (ad x1)), (2, .int x2)]) hx hb dX5_coolTubs_28 rfl hl (by decide) rfl (fun ls hl => ?_)
        refine lv_lload_n hx hb dX5_coolTubs_29 rfl (lv_at hl 0 rfl) ?_
        refine lv_ldc2 hx hb X.2.2.2.1 (X.2.2.2.2.1 _ kcX5_111) dX5_coolTubs_30 ?_
        refine W.lcmp hx hb dX5_coolTubs_33 ?_
        refine lv_if_ne (tgt := 57) hx hb dX5_coolTubs_34 (by decide) (fun c5 => ?_) (fun c5 => ?_)
        · have hm := g_f c5 hm
          refine lv_lload_n hx hb dX5_coolTubs_57 rfl (lv_at hl 0 rfl) ?_
          refine lv_iconst (v := (0 : Int32)) hx hb dX5_coolTubs_58 (by decide) ?_
          refine lv_bipush (v := (99 : Int32)) hx hb dX5_coolTubs_59 (by decide) ?_
          obtain ⟨q6, h7, hm⟩ := g_b hm
          refine backI X hI (runS X hI (ctX5_within q3.1 (0 : Int32) (99 : Int32)  hn _ _ h7 _) msX5_116 ⟨rfl, rfl⟩ ⟨Nat.le_of_ble_eq_true rfl, Nat.le_of_ble_eq_true rfl⟩ rfl hl.1 rfl (Nat.le_of_ble_eq_true rfl) dX5_coolTubs_61) (fun H locs hI => ?_)
          exact tX5_coolTubs_64 N hn X hr fin ih x0 x1 x2 q6 q3.2 H locs ls hx0 hx1 hI (lv_sub hl [1, 2, 3] rfl) hm
        · have hm := g_t c5 hm
          refine lv_iconst (v := (0 : Int32)) hx hb dX5_coolTubs_37 (by decide) ?_
          refine lv_aload_n hx hb dX5_coolTubs_38 rfl (lv_at hl 2 rfl) ?_
          refine gR X hI fdX5_101 hx1 rf0_1 dX5_coolTubs_39 ?_
          refine lv_iload_n hx hb dX5_coolTubs_42 rfl (lv_at hl 3 rfl) ?_
          obtain ⟨g10, hm⟩ := g_no hm
          refine aI X hI (lf0_1 hn hx1) g10 dX5_coolTubs_43 ?_
          refine lv_sipush (v := (200 : Int32)) hx hb dX5_coolTubs_44 (by decide) ?_
          refine lv_isub hx hb dX5_coolTubs_47 ?_
          refine lv_bipush (v := (50 : Int32)) hx hb dX5_coolTubs_48 (by decide) ?_
          refine lv_idiv hx hb dX5_coolTubs_50 (by decide) ?_
          refine kMax X mpX5_113 hl.1 (Nat.le_of_ble_eq_true rfl) (Nat.le_of_ble_eq_true rfl) dX5_coolTubs_51 ?_
          refine lv_goto (tgt := 64) hx hb dX5_coolTubs_54 (by decide) ?_
          exact tX5_coolTubs_64 N hn X hr fin ih x0 x1 x2 (imax (0 : Int32) (((q3.2.1 (x1 + 2) x2.toNatClampNeg) - (200 : Int32)) / (50 : Int32))) q3.2 H locs ls hx0 hx1 hI (lv_sub hl [1, 2, 3] rfl) hm
def fX5_coolTubs (N : Nat) (x0 : Nat) (x1 : Nat) (m : Mem) : Option Mem := fX5_coolTubs_2 N N x0 x1 (0 : Int32) m
set_option maxHeartbeats 4000000 in
set_option maxRecDepth 100000 in
theorem ctX5_coolTubs {l : Launch} {D : va_G} {ca : Nat → ClassId} {ad : Nat → Nat} (N : Nat) (x0 : Nat) (x1 : Nat) (hx0 : ly ca x0 = (0, 6)) (hx1 : ly ca x1 = (0, 0)) (hn : HNc ca) (m : Mem) (fin : Mem) (hm : fX5_coolTubs N x0 x1 m = some fin) : CV l D ca ad yX5_coolTubs cwX5_coolTubs rmX5_coolTubs [.ref (ad x0), .ref (ad x1)] m fin := by
  refine start (by decide) (Nat.le_of_ble_eq_true rfl) ?_
  intro p e s mm args below meth c H locs ls X hI hr hl
  have X : CX p s mm args meth c cX5_coolTubs 6 RX5 D ca ad (WA ca ad s.heap.size) := X
  have hx := X.1
  have hb := X.2.1
  have hl : lv_has ls 6 [(0, .ref (ad x0)), (1, .ref (ad x1))] := hl
  have hm : (fX5_coolTubs_2 N N x0 x1 (0 : Int32) m) = some fin := hm
  refine lv_iconst (v := (0 : Int32)) hx hb dX5_coolTubs_0 (by decide) ?_
  refine lv_istore_n (lv' := [(2, .int (0 : Int32)), (0, .ref (ad x0)), (1, .ref (ad x1))]) hx hb dX5_coolTubs_1 rfl hl (by decide) rfl (fun ls hl => ?_)
  exact tX5_coolTubs_2 N hn X hr fin  N x0 x1 (0 : Int32) m H locs ls hx0 hx1 hI (lv_sub hl [1, 2, 0] rfl) hm
abbrev rmX5_seatKnights : Room := { frames := 3, cells := 0, slots := 0, locals := 64 }
def fX5_seatKnights_2 (N : Nat) : Nat → Nat → Nat → Int32 → Mem → Option Mem
  | 0, _, _, _, _ => none
  | n + 1, x1, x2, x3, m => if (m.1 x1 2) ≤ x3 then (some m) else ((fX9_cell x1 x3 (0 : Int32) m).bind (fun q2 => (fX9_cell x1 x3 (2 : Int32) m).bind (fun q4 => if q4 = (m.1 x2 9) then (if q2 = (m.1 73 1) then (fX5_seatKnights_2 N n x1 x2 (x3 + (1 : Int32)) m) else ((fX9_cell x1 x3 (1 : Int32) m).bind (fun q8 => (fX0_enter x2 q2 q8 m).bind (fun q10 => if q10.1 = 0 then (fX5_seatKnights_2 N n x1 x2 (x3 + (1 : Int32)) (mI q10.2 x2 10 ((q10.2.1 x2 10) + (1 : Int32)))) else (fX5_seatKnights_2 N n x1 x2 (x3 + (1 : Int32)) q10.2))))) else (fX5_seatKnights_2 N n x1 x2 (x3 + (1 : Int32)) m))))
set_option maxHeartbeats 4000000 in
set_option maxRecDepth 100000 in
theorem tX5_seatKnights_2 (N : Nat) {l : Launch} {D : va_G} {ca : Nat → ClassId} {ad : Nat → Nat} {p : Program} {e : Env} {s : State} {mm : MethodId} {args : Array Value} {below : List Frame} {meth : Method} {c : Code}  (hn : HNc ca) (X : CX p s mm args meth c cX5_seatKnights 5 RX5 D ca ad (WA ca ad s.heap.size)) (hr : meth.sig.returnType = none) (fin : Mem)  : ∀ (n : Nat) (x1 : Nat) (x2 : Nat) (x3 : Int32) (m : Mem) (H : Heap) (locs : List Loc) (ls : Array Slot), ly ca x1 = (0, 9) → ly ca x2 = (0, 0) → IW D ca ad (WA ca ad s.heap.size) s m H locs → lv_has ls 5 [(0, .ref (ad 73)), (1, .ref (ad x1)), (2, .ref (ad x2)), (3, .int x3)] → fX5_seatKnights_2 N n x1 x2 x3 m = some fin → W p l e rmX5_seatKnights s mm args below meth c H locs 0 0 (MQ below (QV D ca ad s.heap.size fin) args s 0 0 (WA ca ad s.heap.size)) (F0 mm 2 ls []) := by
  have hx := X.1
  have hb := X.2.1
  intro n
  induction n with
  | zero => intro x1 x2 x3 m H locs ls hx1 hx2 hI hl hm
            exact absurd hm (by intro q; cases q)
  | succ n ih =>
    intro x1 x2 x3 m H locs ls hx1 hx2 hI hl hm
    have hm : (if (m.1 x1 2) ≤ x3 then (some m) else ((fX9_cell x1 x3 (0 : Int32) m).bind (fun q2 => (fX9_cell x1 x3 (2 : Int32) m).bind (fun q4 => if q4 = (m.1 x2 9) then (if q2 = (m.1 73 1) then (fX5_seatKnights_2 N n x1 x2 (x3 + (1 : Int32)) m) else ((fX9_cell x1 x3 (1 : Int32) m).bind (fun q8 => (fX0_enter x2 q2 q8 m).bind (fun q10 => if q10.1 = 0 then (fX5_seatKnights_2 N n x1 x2 (x3 + (1 : Int32)) (mI q10.2 x2 10 ((q10.2.1 x2 10) + (1 : Int32)))) else (fX5_seatKnights_2 N n x1 x2 (x3 + (1 : Int32)) q10.2))))) else (fX5_seatKnights_2 N n x1 x2 (x3 + (1 : Int32)) m))))) = some fin := hm
    refine lv_iload_n hx hb dX5_seatKnights_2 rfl (lv_at hl 3 rfl) ?_
    refine lv_aload_n hx hb dX5_seatKnights_3 rfl (lv_at hl 1 rfl) ?_
    refine gI X hI fdX5_63 hx1 dX5_seatKnights_4 ?_
    refine lv_icmp_ge (tgt := 74) hx hb dX5_seatKnights_7 (by decide) (fun c1 => ?_) (fun c1 => ?_)
    · have hm := g_t c1 hm
      exact rV X hI hr (g_1 hm) dX5_seatKnights_74
    · have hm := g_f c1 hm
      refine lv_aload_n hx hb dX5_seatKnights_10 rfl (lv_at hl 1 rfl) ?_
      refine lv_iload_n hx hb dX5_seatKnights_11 rfl (lv_at hl 3 rfl) ?_
      refine lv_iconst (v := (0 : Int32)) hx hb dX5_seatKnights_12 (by decide) ?_
      obtain ⟨q2, h3, hm⟩ := g_b hm
      refine backI X hI (runV X hI (ctX9_cell x1 x3 (0 : Int32) hx1 hn _ _ h3 _) mdX5_81 hx1 rfl ⟨rfl, rfl⟩ ⟨Nat.le_of_ble_eq_true rfl, Nat.le_of_ble_eq_true rfl⟩ rfl hl.1 rfl (Nat.le_of_ble_eq_true rfl) dX5_seatKnights_13) (fun H locs hI => ?_)
      refine lv_istore (lv' := [(4, .int q2), (0, .ref (ad 73)), (1, .ref (ad x1)), (2, .ref (ad x2)), (3, .int x3)]) hx hb dX5_seatKnights_16 hl (by decide) rfl (fun ls hl => ?_)
      refine lv_aload_n hx hb dX5_seatKnights_18 rfl (lv_at hl 2 rfl) ?_
      refine lv_iload_n hx hb dX5_seatKnights_19 rfl (lv_at hl 4 rfl) ?_
      refine lv_iconst (v := (2 : Int32)) hx hb dX5_seatKnights_20 (by decide) ?_
      obtain ⟨q4, h5, hm⟩ := g_b hm
      refine backI X hI (runV X hI (ctX9_cell x1 x3 (2 : Int32) hx1 hn _ _ h5 _) mdX5_81 hx1 rfl ⟨rfl, rfl⟩ ⟨Nat.le_of_ble_eq_true rfl, Nat.le_of_ble_eq_true rfl⟩ rfl hl.1 rfl (Nat.le_of_ble_eq_true rfl) dX5_seatKnights_21) (fun H locs hI => ?_)
      refine lv_aload_n hx hb dX5_seatKnights_24 rfl (lv_at hl 3 rfl) ?_
      refine gI X hI fdX5_78 hx2 dX5_seatKnights_25 ?_
      refine lv_icmp_ne (tgt := 68) hx hb dX5_seatKnights_28 (by decide) (fun c6 => ?_) (fun c6 => ?_)
      · have hm := g_f c6 hm
        refine lv_iinc (v := (x3 + (1 : Int32))) (lv' := [(3, .int (x3 + (1 : Int32))), (4, .int q2), (0, .ref (ad 73)), (1, .ref (ad x1)), (2, .ref (ad x2))]) hx hb dX5_seatKnights_68 hl (k := 4) rfl rfl (by decide) rfl (fun ls hl => ?_)
        refine lv_goto (tgt := 2) hx hb dX5_seatKnights_71 (by decide) ?_
        exact ih x1 x2 (x3 + (1 : Int32)) m H locs ls hx1 hx2 hI (lv_sub hl [2, 3, 4, 0] rfl) hm
      · have hm := g_t c6 hm
        refine lv_iload hx hb dX5_seatKnights_31 (lv_at hl 0 rfl) ?_
        refine lv_aload_n hx hb dX5_seatKnights_33 rfl (lv_at hl 1 rfl) ?_
        refine gI X hI fdX5_9 (la_73 hn) dX5_seatKnights_34 ?_
        refine lv_icmp_ne (tgt := 43) hx hb dX5_seatKnights_37 (by decide) (fun c7 => ?_) (fun c7 => ?_)
        · have hm := g_f c7 hm
          refine lv_aload_n hx hb dX5_seatKnights_43 rfl (lv_at hl 3 rfl) ?_
          refine lv_iload hx hb dX5_seatKnights_44 (lv_at hl 0 rfl) ?_
          refine lv_aload_n hx hb dX5_seatKnights_46 rfl (lv_at hl 2 rfl) ?_
          refine lv_iload_n hx hb dX5_seatKnights_47 rfl (lv_at hl 4 rfl) ?_
          refine lv_iconst (v := (1 : Int32)) hx hb dX5_seatKnights_48 (by decide) ?_
          obtain ⟨q8, h9, hm⟩ := g_b hm
          refine backI X hI (runV X hI (ctX9_cell x1 x3 (1 : Int32) hx1 hn _ _ h9 _) mdX5_81 hx1 rfl ⟨rfl, rfl⟩ ⟨Nat.le_of_ble_eq_true rfl, Nat.le_of_ble_eq_true rfl⟩ rfl hl.1 rfl (Nat.le_of_ble_eq_true rfl) dX5_seatKnights_49) (fun H locs hI => ?_)
          obtain ⟨q10, h11, hm⟩ := g_b hm
          refine backI X hI (runV X hI (ctX0_enter x2 q2 q8 hx2 hn _ _ h11 _) mdX5_120 hx2 rfl ⟨rfl, rfl⟩ ⟨Nat.le_of_ble_eq_true rfl, Nat.le_of_ble_eq_true rfl⟩ rfl hl.1 rfl (Nat.le_of_ble_eq_true rfl) dX5_seatKnights_52) (fun H locs hI => ?_)
          refine lv_if_ne (tgt := 68) hx hb dX5_seatKnights_55 (by decide) (fun c12 => ?_) (fun c12 => ?_)
          · have hm := g_f c12 hm
            refine lv_iinc (v := (x3 + (1 : Int32))) (lv' := [(3, .int (x3 + (1 : Int32))), (4, .int q2), (0, .ref (ad 73)), (1, .ref (ad x1)), (2, .ref (ad x2))]) hx hb dX5_seatKnights_68 hl (k := 4) rfl rfl (by decide) rfl (fun ls hl => ?_)
            refine lv_goto (tgt := 2) hx hb dX5_seatKnights_71 (by decide) ?_
            exact ih x1 x2 (x3 + (1 : Int32)) q10.2 H locs ls hx1 hx2 hI (lv_sub hl [2, 3, 4, 0] rfl) hm
          · have hm := g_t c12 hm
            refine lv_aload_n hx hb dX5_seatKnights_58 rfl (lv_at hl 3 rfl) ?_
            refine lv_dup hx hb dX5_seatKnights_59 rfl ?_
            refine gI X hI fdX5_123 hx2 dX5_seatKnights_60 ?_
            refine lv_iconst (v := (1 : Int32)) hx hb dX5_seatKnights_63 (by decide) ?_
            refine lv_iadd hx hb dX5_seatKnights_64 ?_
            refine pI X hI fpX5_123 hx2 dX5_seatKnights_65 (fun H locs hI => ?_)
            refine lv_iinc (v := (x3 + (1 : Int32))) (lv' := [(3, .int (x3 + (1 : Int32))), (4, .int q2), (0, .ref (ad 73)), (1, .ref (ad x1)), (2, .ref (ad x2))]) hx hb dX5_seatKnights_68 hl (k := 4) rfl rfl (by decide) rfl (fun ls hl => ?_)
            refine lv_goto (tgt := 2) hx hb dX5_seatKnights_71 (by decide) ?_
            exact ih x1 x2 (x3 + (1 : Int32)) (mI q10.2 x2 10 ((q10.2.1 x2 10) + (1 : Int32))) H locs ls hx1 hx2 hI (lv_sub hl [2, 3, 4, 0] rfl) hm
        · have hm := g_t c7 hm
          refine lv_goto (tgt := 68) hx hb dX5_seatKnights_40 (by decide) ?_
          refine lv_iinc (v := (x3 + (1 : Int32))) (lv' := [(3, .int (x3 + (1 : Int32))), (4, .int q2), (0, .ref (ad 73)), (1, .ref (ad x1)), (2, .ref (ad x2))]) hx hb dX5_seatKnights_68 hl (k := 4) rfl rfl (by decide) rfl (fun ls hl => ?_)
          refine lv_goto (tgt := 2) hx hb dX5_seatKnights_71 (by decide) ?_
          exact ih x1 x2 (x3 + (1 : Int32)) m H locs ls hx1 hx2 hI (lv_sub hl [2, 3, 4, 0] rfl) hm
def fX5_seatKnights (N : Nat) (x1 : Nat) (x2 : Nat) (m : Mem) : Option Mem := fX5_seatKnights_2 N N x1 x2 (0 : Int32) m
set_option maxHeartbeats 4000000 in
set_option maxRecDepth 100000 in
theorem ctX5_seatKnights {l : Launch} {D : va_G} {ca : Nat → ClassId} {ad : Nat → Nat} (N : Nat) (x1 : Nat) (x2 : Nat) (hx1 : ly ca x1 = (0, 9)) (hx2 : ly ca x2 = (0, 0)) (hn : HNc ca) (m : Mem) (fin : Mem) (hm : fX5_seatKnights N x1 x2 m = some fin) : CV l D ca ad yX5_seatKnights cwX5_seatKnights rmX5_seatKnights [.ref (ad 73), .ref (ad x1), .ref (ad x2)] m fin := by
  refine start (by decide) (Nat.le_of_ble_eq_true rfl) ?_
  intro p e s mm args below meth c H locs ls X hI hr hl
  have X : CX p s mm args meth c cX5_seatKnights 5 RX5 D ca ad (WA ca ad s.heap.size) := X
  have hx := X.1
  have hb := X.2.1
  have hl : lv_has ls 5 [(0, .ref (ad 73)), (1, .ref (ad x1)), (2, .ref (ad x2))] := hl
  have hm : (fX5_seatKnights_2 N N x1 x2 (0 : Int32) m) = some fin := hm
  refine lv_iconst (v := (0 : Int32)) hx hb dX5_seatKnights_0 (by decide) ?_
  refine lv_istore_n (lv' := [(3, .int (0 : Int32)), (0, .ref (ad 73)), (1, .ref (ad x1)), (2, .ref (ad x2))]) hx hb dX5_seatKnights_1 rfl hl (by decide) rfl (fun ls hl => ?_)
  exact tX5_seatKnights_2 N hn X hr fin  N x1 x2 (0 : Int32) m H locs ls hx1 hx2 hI (lv_sub hl [1, 2, 3, 0] rfl) hm
abbrev rmX6_easeIn : Room := { frames := 3, cells := 0, slots := 0, locals := 79 }
def fX6_easeIn (N : Nat) (x0 : Nat) (x1 : Nat) (x2 : Int32) (x3 : Int32) (x4 : Int32) (m : Mem) : Option (Int32 × Mem) := (fX6_hasKnight x0 x2 m).bind (fun q1 => if q1 = 0 then (some ((0 : Int32), m)) else ((fX6_hasTub x0 x3 m).bind (fun q4 => if q4 = 0 then (some ((0 : Int32), m)) else ((fX6_worthOf N x0 (1 : Int32) x1 x2 x3 x4 m).bind (fun q7 => if (lg_cmp q7.1 (-9223372036854775808 : Int64)) = 0 then (if x3 < 0 ∨ 6 ≤ x3.toNatClampNeg then none else (if x2 < 0 ∨ 6 ≤ x2.toNatClampNeg then none else (if ((10 : Int32) * (q7.2.1 (x1 + 4) x2.toNatClampNeg)) < (q7.2.1 (x1 + 2) x3.toNatClampNeg) then (some ((0 : Int32), q7.2)) else (some ((1 : Int32), q7.2))))) else (if (lg_cmp q7.1 (0 : Int64)) = 0 then (some ((0 : Int32), q7.2)) else (some ((1 : Int32), q7.2))))))))
set_option maxHeartbeats 4000000 in
set_option maxRecDepth 100000 in
theorem ctX6_easeIn {l : Launch} {D : va_G} {ca : Nat → ClassId} {ad : Nat → Nat} (N : Nat) (x0 : Nat) (x1 : Nat) (x2 : Int32) (x3 : Int32) (x4 : Int32) (hx0 : ly ca x0 = (0, 6)) (hx1 : ly ca x1 = (0, 0)) (hn : HNc ca) (m : Mem) (fin : (Int32 × Mem)) (hm : fX6_easeIn N x0 x1 x2 x3 x4 m = some fin) : CI l D ca ad yX6_easeIn cwX6_easeIn rmX6_easeIn [.ref (ad x0), .ref (ad x1), .int x2, .int x3, .int x4] m fin.1 fin.2 := by
  refine start (by decide) (Nat.le_of_ble_eq_true rfl) ?_
  intro p e s mm args below meth c H locs ls X hI hr hl
  have X : CX p s mm args meth c cX6_easeIn 7 RX6 D ca ad (WA ca ad s.heap.size) := X
  have hx := X.1
  have hb := X.2.1
  have hl : lv_has ls 7 [(0, .ref (ad x0)), (1, .ref (ad x1)), (2, .int x2), (3, .int x3), (4, .int x4)] := hl
  have hm : ((fX6_hasKnight x0 x2 m).bind (fun q1 => if q1 = 0 then (some ((0 : Int32), m)) else ((fX6_hasTub x0 x3 m).bind (fun q4 => if q4 = 0 then (some ((0 : Int32), m)) else ((fX6_worthOf N x0 (1 : Int32) x1 x2 x3 x4 m).bind (fun q7 => if (lg_cmp q7.1 (-9223372036854775808 : Int64)) = 0 then (if x3 < 0 ∨ 6 ≤ x3.toNatClampNeg then none else (if x2 < 0 ∨ 6 ≤ x2.toNatClampNeg then none else (if ((10 : Int32) * (q7.2.1 (x1 + 4) x2.toNatClampNeg)) < (q7.2.1 (x1 + 2) x3.toNatClampNeg) then (some ((0 : Int32), q7.2)) else (some ((1 : Int32), q7.2))))) else (if (lg_cmp q7.1 (0 : Int64)) = 0 then (some ((0 : Int32), q7.2)) else (some ((1 : Int32), q7.2))))))))) = some fin := hm
  refine lv_aload_n hx hb dX6_easeIn_0 rfl (lv_at hl 0 rfl) ?_
  refine lv_iload_n hx hb dX6_easeIn_1 rfl (lv_at hl 2 rfl) ?_
  obtain ⟨q1, h2, hm⟩ := g_b hm
  refine backI X hI (runV X hI (ctX6_hasKnight x0 x2 hx0 hn _ _ h2 _) mdX6_66 hx0 rfl ⟨rfl, rfl⟩ ⟨Nat.le_of_ble_eq_true rfl, Nat.le_of_ble_eq_true rfl⟩ rfl hl.1 rfl (Nat.le_of_ble_eq_true rfl) dX6_easeIn_2) (fun H locs hI => ?_)
  refine lv_if_eq (tgt := 16) hx hb dX6_easeIn_5 (by decide) (fun c3 => ?_) (fun c3 => ?_)
  · have hm := g_t c3 hm
    refine lv_iconst (v := (0 : Int32)) hx hb dX6_easeIn_16 (by decide) ?_
    exact rZ X hI hr (by decide) (g_p hm).1 (g_p hm).2 dX6_easeIn_17
  · have hm := g_f c3 hm
    refine lv_aload_n hx hb dX6_easeIn_8 rfl (lv_at hl 0 rfl) ?_
    refine lv_iload_n hx hb dX6_easeIn_9 rfl (lv_at hl 3 rfl) ?_
    obtain ⟨q4, h5, hm⟩ := g_b hm
    refine backI X hI (runV X hI (ctX6_hasTub x0 x3 hx0 hn _ _ h5 _) mdX6_70 hx0 rfl ⟨rfl, rfl⟩ ⟨Nat.le_of_ble_eq_true rfl, Nat.le_of_ble_eq_true rfl⟩ rfl hl.1 rfl (Nat.le_of_ble_eq_true rfl) dX6_easeIn_10) (fun H locs hI => ?_)
    refine lv_if_ne (tgt := 18) hx hb dX6_easeIn_13 (by decide) (fun c6 => ?_) (fun c6 => ?_)
    · have hm := g_f c6 hm
      refine lv_aload_n hx hb dX6_easeIn_18 rfl (lv_at hl 0 rfl) ?_
      refine lv_iconst (v := (1 : Int32)) hx hb dX6_easeIn_19 (by decide) ?_
      refine lv_aload_n hx hb dX6_easeIn_20 rfl (lv_at hl 1 rfl) ?_
      refine lv_iload_n hx hb dX6_easeIn_21 rfl (lv_at hl 2 rfl) ?_
      refine lv_iload_n hx hb dX6_easeIn_22 rfl (lv_at hl 3 rfl) ?_
      refine lv_iload hx hb dX6_easeIn_23 (lv_at hl 4 rfl) ?_
      obtain ⟨q7, h8, hm⟩ := g_b hm
      refine backL X hI (runV X hI (ctX6_worthOf N x0 (1 : Int32) x1 x2 x3 x4 hx0 hx1 hn _ _ h8 _) mdX6_73 hx0 rfl ⟨rfl, rfl⟩ ⟨Nat.le_of_ble_eq_true rfl, Nat.le_of_ble_eq_true rfl⟩ rfl hl.1 rfl (Nat.le_of_ble_eq_true rfl) dX6_easeIn_25) (fun H locs hI => ?_)
      refine lv_lstore (lv' := [(5, .long q7.1), (0, .ref (ad x0)), (1, .ref (ad x1)), (2, .int x2), (3, .int x3), (4, .int x4)]) hx hb dX6_easeIn_28 hl (by decide) rfl (fun ls hl => ?_)
      refine lv_lload hx hb dX6_easeIn_30 (lv_at hl 0 rfl) ?_
      refine lv_ldc2 hx hb X.2.2.2.1 (X.2.2.2.2.1 _ kcX6_77) dX6_easeIn_32 ?_
      refine W.lcmp hx hb dX6_easeIn_35 ?_
      refine lv_if_ne (tgt := 65) hx hb dX6_easeIn_36 (by decide) (fun c9 => ?_) (fun c9 => ?_)
      · have hm := g_f c9 hm
        refine lv_lload hx hb dX6_easeIn_65 (lv_at hl 0 rfl) ?_
        refine lv_lconst (v := (0 : Int64)) hx hb dX6_easeIn_67 (by decide) ?_
        refine W.lcmp hx hb dX6_easeIn_68 ?_
        refine lv_if_eq (tgt := 76) hx hb dX6_easeIn_69 (by decide) (fun c10 => ?_) (fun c10 => ?_)
        · have hm := g_t c10 hm
          refine lv_iconst (v := (0 : Int32)) hx hb dX6_easeIn_76 (by decide) ?_
          exact rZ X hI hr (by decide) (g_p hm).1 (g_p hm).2 dX6_easeIn_77
        · have hm := g_f c10 hm
          refine lv_iconst (v := (1 : Int32)) hx hb dX6_easeIn_72 (by decide) ?_
          refine lv_goto (tgt := 77) hx hb dX6_easeIn_73 (by decide) ?_
          exact rZ X hI hr (by decide) (g_p hm).1 (g_p hm).2 dX6_easeIn_77
      · have hm := g_t c9 hm
        refine lv_aload_n hx hb dX6_easeIn_39 rfl (lv_at hl 2 rfl) ?_
        refine gR X hI fdX6_79 hx1 rf0_1 dX6_easeIn_40 ?_
        refine lv_iload_n hx hb dX6_easeIn_43 rfl (lv_at hl 4 rfl) ?_
        obtain ⟨g11, hm⟩ := g_no hm
        refine aI X hI (lf0_1 hn hx1) g11 dX6_easeIn_44 ?_
        refine lv_bipush (v := (10 : Int32)) hx hb dX6_easeIn_45 (by decide) ?_
        refine lv_aload_n hx hb dX6_easeIn_47 rfl (lv_at hl 2 rfl) ?_
        refine gR X hI fdX6_85 hx1 rf0_3 dX6_easeIn_48 ?_
        refine lv_iload_n hx hb dX6_easeIn_51 rfl (lv_at hl 3 rfl) ?_
        obtain ⟨g12, hm⟩ := g_no hm
        refine aI X hI (lf0_3 hn hx1) g12 dX6_easeIn_52 ?_
        refine lv_imul hx hb dX6_easeIn_53 ?_
        refine lv_icmp_gt (tgt := 61) hx hb dX6_easeIn_54 (by decide) (fun c13 => ?_) (fun c13 => ?_)
        · have hm := g_t c13 hm
          refine lv_iconst (v := (0 : Int32)) hx hb dX6_easeIn_61 (by decide) ?_
          refine lv_goto (tgt := 77) hx hb dX6_easeIn_62 (by decide) ?_
          exact rZ X hI hr (by decide) (g_p hm).1 (g_p hm).2 dX6_easeIn_77
        · have hm := g_f c13 hm
          refine lv_iconst (v := (1 : Int32)) hx hb dX6_easeIn_57 (by decide) ?_
          refine lv_goto (tgt := 77) hx hb dX6_easeIn_58 (by decide) ?_
          exact rZ X hI hr (by decide) (g_p hm).1 (g_p hm).2 dX6_easeIn_77
    · have hm := g_t c6 hm
      refine lv_iconst (v := (0 : Int32)) hx hb dX6_easeIn_16 (by decide) ?_
      exact rZ X hI hr (by decide) (g_p hm).1 (g_p hm).2 dX6_easeIn_17
abbrev rmX5_givesWay : Room := { frames := 1, cells := 0, slots := 0, locals := 20 }
def fX5_givesWay_31  (x1 : Int32) (m : Mem) : Option (Int32 × Mem) := if x1 = (100 : Int32) then (some ((1 : Int32), m)) else (some ((0 : Int32), m))
set_option maxHeartbeats 4000000 in
set_option maxRecDepth 100000 in
theorem tX5_givesWay_31  {l : Launch} {D : va_G} {ca : Nat → ClassId} {ad : Nat → Nat} {p : Program} {e : Env} {s : State} {mm : MethodId} {args : Array Value} {below : List Frame} {meth : Method} {c : Code}  (hn : HNc ca) (X : CX p s mm args meth c cX5_givesWay 3 RX5 D ca ad (WA ca ad s.heap.size)) (hr : meth.sig.returnType = (some .boolean)) (fin : (Int32 × Mem))  : ∀ (x1 : Int32) (m : Mem) (H : Heap) (locs : List Loc) (ls : Array Slot), IW D ca ad (WA ca ad s.heap.size) s m H locs → lv_has ls 3 [(1, .int x1)] → fX5_givesWay_31  x1 m = some fin → W p l e rmX5_givesWay s mm args below meth c H locs 0 0 (MQ below (QI D ca ad s.heap.size fin.1 fin.2) args s 0 0 (WA ca ad s.heap.size)) (F0 mm 31 ls []) := by
  have hx := X.1
  have hb := X.2.1
  intro x1 m H locs ls hI hl hm
  have hm : (if x1 = (100 : Int32) then (some ((1 : Int32), m)) else (some ((0 : Int32), m))) = some fin := hm
  refine lv_iload_n hx hb dX5_givesWay_31 rfl (lv_at hl 0 rfl) ?_
  refine lv_bipush (v := (100 : Int32)) hx hb dX5_givesWay_32 (by decide) ?_
  refine lv_icmp_ne (tgt := 41) hx hb dX5_givesWay_34 (by decide) (fun c3 => ?_) (fun c3 => ?_)
  · have hm := g_f c3 hm
    refine lv_iconst (v := (0 : Int32)) hx hb dX5_givesWay_41 (by decide) ?_
    exact rZ X hI hr (by decide) (g_p hm).1 (g_p hm).2 dX5_givesWay_42
  · have hm := g_t c3 hm
    refine lv_iconst (v := (1 : Int32)) hx hb dX5_givesWay_37 (by decide) ?_
    refine lv_goto (tgt := 42) hx hb dX5_givesWay_38 (by decide) ?_
    exact rZ X hI hr (by decide) (g_p hm).1 (g_p hm).2 dX5_givesWay_42
def fX5_givesWay  (x1 : Int32) (x2 : Nat) (m : Mem) : Option (Int32 × Mem) := if (m.1 73 0) = 0 then (if x1 = 0 then (fX5_givesWay_31 x1 m) else (if x1 = (100 : Int32) then (fX5_givesWay_31 x1 m) else ((fX0_draw x2 m).bind (fun q5 => if x1 ≤ (jrem q5.1 (100 : Int32)) then (some ((0 : Int32), q5.2)) else (some ((1 : Int32), q5.2)))))) else (if (m.1 73 0) = (1 : Int32) then (some ((1 : Int32), m)) else (some ((0 : Int32), m)))
set_option maxHeartbeats 4000000 in
set_option maxRecDepth 100000 in
theorem ctX5_givesWay {l : Launch} {D : va_G} {ca : Nat → ClassId} {ad : Nat → Nat}  (x1 : Int32) (x2 : Nat) (hx2 : ly ca x2 = (0, 0)) (hn : HNc ca) (m : Mem) (fin : (Int32 × Mem)) (hm : fX5_givesWay x1 x2 m = some fin) : CI l D ca ad yX5_givesWay cwX5_givesWay rmX5_givesWay [.ref (ad 73), .int x1, .ref (ad x2)] m fin.1 fin.2 := by
  refine start (by decide) (Nat.le_of_ble_eq_true rfl) ?_
  intro p e s mm args below meth c H locs ls X hI hr hl
  have X : CX p s mm args meth c cX5_givesWay 3 RX5 D ca ad (WA ca ad s.heap.size) := X
  have hx := X.1
  have hb := X.2.1
  have hl : lv_has ls 3 [(0, .ref (ad 73)), (1, .int x1), (2, .ref (ad x2))] := hl
  have hm : (if (m.1 73 0) = 0 then (if x1 = 0 then (fX5_givesWay_31 x1 m) else (if x1 = (100 : Int32) then (fX5_givesWay_31 x1 m) else ((fX0_draw x2 m).bind (fun q5 => if x1 ≤ (jrem q5.1 (100 : Int32)) then (some ((0 : Int32), q5.2)) else (some ((1 : Int32), q5.2)))))) else (if (m.1 73 0) = (1 : Int32) then (some ((1 : Int32), m)) else (some ((0 : Int32), m)))) = some fin := hm
  refine lv_aload_n hx hb dX5_givesWay_0 rfl (lv_at hl 0 rfl) ?_
  refine gI X hI fdX5_22 (la_73 hn) dX5_givesWay_1 ?_
  refine lv_if_eq (tgt := 21) hx hb dX5_givesWay_4 (by decide) (fun c1 => ?_) (fun c1 => ?_)
  · have hm := g_t c1 hm
    refine lv_iload_n hx hb dX5_givesWay_21 rfl (lv_at hl 1 rfl) ?_
    refine lv_if_eq (tgt := 31) hx hb dX5_givesWay_22 (by decide) (fun c2 => ?_) (fun c2 => ?_)
    · have hm := g_t c2 hm
      exact tX5_givesWay_31  hn X hr fin  x1 m H locs ls hI (lv_sub hl [1] rfl) hm
    · have hm := g_f c2 hm
      refine lv_iload_n hx hb dX5_givesWay_25 rfl (lv_at hl 1 rfl) ?_
      refine lv_bipush (v := (100 : Int32)) hx hb dX5_givesWay_26 (by decide) ?_
      refine lv_icmp_ne (tgt := 43) hx hb dX5_givesWay_28 (by decide) (fun c4 => ?_) (fun c4 => ?_)
      · have hm := g_f c4 hm
        refine lv_aload_n hx hb dX5_givesWay_43 rfl (lv_at hl 2 rfl) ?_
        obtain ⟨q5, h6, hm⟩ := g_b hm
        refine backI X hI (runV X hI (ctX0_draw x2 hx2 hn _ _ h6 _) mdX5_157 hx2 rfl ⟨rfl, rfl⟩ ⟨Nat.le_of_ble_eq_true rfl, Nat.le_of_ble_eq_true rfl⟩ rfl hl.1 rfl (Nat.le_of_ble_eq_true rfl) dX5_givesWay_44) (fun H locs hI => ?_)
        refine lv_bipush (v := (100 : Int32)) hx hb dX5_givesWay_47 (by decide) ?_
        refine kRem hx hb dX5_givesWay_49 (by decide) ?_
        refine lv_iload_n hx hb dX5_givesWay_50 rfl (lv_at hl 1 rfl) ?_
        refine lv_icmp_ge (tgt := 58) hx hb dX5_givesWay_51 (by decide) (fun c7 => ?_) (fun c7 => ?_)
        · have hm := g_t c7 hm
          refine lv_iconst (v := (0 : Int32)) hx hb dX5_givesWay_58 (by decide) ?_
          exact rZ X hI hr (by decide) (g_p hm).1 (g_p hm).2 dX5_givesWay_59
        · have hm := g_f c7 hm
          refine lv_iconst (v := (1 : Int32)) hx hb dX5_givesWay_54 (by decide) ?_
          refine lv_goto (tgt := 59) hx hb dX5_givesWay_55 (by decide) ?_
          exact rZ X hI hr (by decide) (g_p hm).1 (g_p hm).2 dX5_givesWay_59
      · have hm := g_t c4 hm
        exact tX5_givesWay_31  hn X hr fin  x1 m H locs ls hI (lv_sub hl [1] rfl) hm
  · have hm := g_f c1 hm
    refine lv_aload_n hx hb dX5_givesWay_7 rfl (lv_at hl 0 rfl) ?_
    refine gI X hI fdX5_22 (la_73 hn) dX5_givesWay_8 ?_
    refine lv_iconst (v := (1 : Int32)) hx hb dX5_givesWay_11 (by decide) ?_
    refine lv_icmp_ne (tgt := 19) hx hb dX5_givesWay_12 (by decide) (fun c8 => ?_) (fun c8 => ?_)
    · have hm := g_f c8 hm
      refine lv_iconst (v := (0 : Int32)) hx hb dX5_givesWay_19 (by decide) ?_
      exact rZ X hI hr (by decide) (g_p hm).1 (g_p hm).2 dX5_givesWay_20
    · have hm := g_t c8 hm
      refine lv_iconst (v := (1 : Int32)) hx hb dX5_givesWay_15 (by decide) ?_
      refine lv_goto (tgt := 20) hx hb dX5_givesWay_16 (by decide) ?_
      exact rZ X hI hr (by decide) (g_p hm).1 (g_p hm).2 dX5_givesWay_20
abbrev rmX5_stand : Room := { frames := 4, cells := 0, slots := 0, locals := 105 }
def fX5_stand_157 (N : Nat) (x2 : Nat) (x3 : Int32) (y0 : Int32) (m : Mem) : Option Mem := if x3 < 0 ∨ 6 ≤ x3.toNatClampNeg then none else ((fX5_within ((m.1 (x2 + 4) x3.toNatClampNeg) + y0).toInt64 (0 : Int32) (99 : Int32) m).bind (fun q23 => if x3 < 0 ∨ 6 ≤ x3.toNatClampNeg then none else (some (mI m (x2 + 4) x3.toNatClampNeg q23))))
set_option maxHeartbeats 4000000 in
set_option maxRecDepth 100000 in
theorem tX5_stand_157 (N : Nat) {l : Launch} {D : va_G} {ca : Nat → ClassId} {ad : Nat → Nat} {p : Program} {e : Env} {s : State} {mm : MethodId} {args : Array Value} {below : List Frame} {meth : Method} {c : Code}  (hn : HNc ca) (X : CX p s mm args meth c cX5_stand 8 RX5 D ca ad (WA ca ad s.heap.size)) (hr : meth.sig.returnType = none) (fin : Mem)  : ∀ (x2 : Nat) (x3 : Int32) (y0 : Int32) (m : Mem) (H : Heap) (locs : List Loc) (ls : Array Slot), ly ca x2 = (0, 0) → IW D ca ad (WA ca ad s.heap.size) s m H locs → lv_has ls 8 [(2, .ref (ad x2)), (3, .int x3)] → fX5_stand_157 N x2 x3 y0 m = some fin → W p l e rmX5_stand s mm args below meth c H locs 0 0 (MQ below (QV D ca ad s.heap.size fin) args s 0 0 (WA ca ad s.heap.size)) (F0 mm 157 ls [.int y0]) := by
  have hx := X.1
  have hb := X.2.1
  intro x2 x3 y0 m H locs ls hx2 hI hl hm
  have hm : (if x3 < 0 ∨ 6 ≤ x3.toNatClampNeg then none else ((fX5_within ((m.1 (x2 + 4) x3.toNatClampNeg) + y0).toInt64 (0 : Int32) (99 : Int32) m).bind (fun q23 => if x3 < 0 ∨ 6 ≤ x3.toNatClampNeg then none else (some (mI m (x2 + 4) x3.toNatClampNeg q23))))) = some fin := hm
  refine lv_istore (lv' := [(7, .int y0), (2, .ref (ad x2)), (3, .int x3)]) hx hb dX5_stand_157 hl (by decide) rfl (fun ls hl => ?_)
  refine lv_aload_n hx hb dX5_stand_159 rfl (lv_at hl 1 rfl) ?_
  refine gR X hI fdX5_154 hx2 rf0_3 dX5_stand_160 ?_
  refine lv_iload_n hx hb dX5_stand_163 rfl (lv_at hl 2 rfl) ?_
  refine lv_aload_n hx hb dX5_stand_164 rfl (lv_at hl 1 rfl) ?_
  refine gR X hI fdX5_154 hx2 rf0_3 dX5_stand_165 ?_
  refine lv_iload_n hx hb dX5_stand_168 rfl (lv_at hl 2 rfl) ?_
  obtain ⟨g22, hm⟩ := g_no hm
  refine aI X hI (lf0_3 hn hx2) g22 dX5_stand_169 ?_
  refine lv_iload hx hb dX5_stand_170 (lv_at hl 0 rfl) ?_
  refine lv_iadd hx hb dX5_stand_172 ?_
  refine lv_i2l hx hb dX5_stand_173 rfl ?_
  refine lv_iconst (v := (0 : Int32)) hx hb dX5_stand_174 (by decide) ?_
  refine lv_bipush (v := (99 : Int32)) hx hb dX5_stand_175 (by decide) ?_
  obtain ⟨q23, h24, hm⟩ := g_b hm
  refine backI X hI (runS X hI (ctX5_within ((m.1 (x2 + 4) x3.toNatClampNeg) + y0).toInt64 (0 : Int32) (99 : Int32)  hn _ _ h24 _) msX5_116 ⟨rfl, rfl⟩ ⟨Nat.le_of_ble_eq_true rfl, Nat.le_of_ble_eq_true rfl⟩ rfl hl.1 rfl (Nat.le_of_ble_eq_true rfl) dX5_stand_177) (fun H locs hI => ?_)
  obtain ⟨g25, hm⟩ := g_no hm
  refine sI X hI (lf0_3 hn hx2) g25 dX5_stand_180 (fun H locs hI => ?_)
  exact rV X hI hr (g_1 hm) dX5_stand_181
def fX5_stand_88 (N : Nat) (x1 : Nat) (x2 : Nat) (x3 : Int32) (x4 : Int32) (m : Mem) : Option Mem := if x3 < 0 ∨ 6 ≤ x3.toNatClampNeg then none else (if x3 < 0 ∨ 6 ≤ x3.toNatClampNeg then none else (if x3 < 0 ∨ 6 ≤ x3.toNatClampNeg then none else (if x3 < 0 ∨ 6 ≤ x3.toNatClampNeg then none else (if x3 < 0 ∨ 6 ≤ x3.toNatClampNeg then none else ((fX6_worthOf N x1 (2 : Int32) x2 x3 x4 ((mI (mI m (x2 + 6) x3.toNatClampNeg (imin (9999 : Int32) ((m.1 (x2 + 6) x3.toNatClampNeg) + (1 : Int32)))) (x2 + 8) x3.toNatClampNeg (((mI m (x2 + 6) x3.toNatClampNeg (imin (9999 : Int32) ((m.1 (x2 + 6) x3.toNatClampNeg) + (1 : Int32)))).1 (x2 + 8) x3.toNatClampNeg) + (1 : Int32))).1 (x2 + 8) x3.toNatClampNeg) (mI (mI m (x2 + 6) x3.toNatClampNeg (imin (9999 : Int32) ((m.1 (x2 + 6) x3.toNatClampNeg) + (1 : Int32)))) (x2 + 8) x3.toNatClampNeg (((mI m (x2 + 6) x3.toNatClampNeg (imin (9999 : Int32) ((m.1 (x2 + 6) x3.toNatClampNeg) + (1 : Int32)))).1 (x2 + 8) x3.toNatClampNeg) + (1 : Int32)))).bind (fun q17 => if (lg_cmp q17.1 (-9223372036854775808 : Int64)) = 0 then (fX5_stand_157 N x2 x3 (0 : Int32) q17.2) else ((fX5_within q17.1 (-9 : Int32) (9 : Int32) q17.2).bind (fun q20 => fX5_stand_157 N x2 x3 q20 q17.2))))))))
set_option maxHeartbeats 4000000 in
set_option maxRecDepth 100000 in
theorem tX5_stand_88 (N : Nat) {l : Launch} {D : va_G} {ca : Nat → ClassId} {ad : Nat → Nat} {p : Program} {e : Env} {s : State} {mm : MethodId} {args : Array Value} {below : List Frame} {meth : Method} {c : Code}  (hn : HNc ca) (X : CX p s mm args meth c cX5_stand 8 RX5 D ca ad (WA ca ad s.heap.size)) (hr : meth.sig.returnType = none) (fin : Mem)  : ∀ (x1 : Nat) (x2 : Nat) (x3 : Int32) (x4 : Int32) (m : Mem) (H : Heap) (locs : List Loc) (ls : Array Slot), ly ca x1 = (0, 6) → ly ca x2 = (0, 0) → IW D ca ad (WA ca ad s.heap.size) s m H locs → lv_has ls 8 [(1, .ref (ad x1)), (2, .ref (ad x2)), (3, .int x3), (4, .int x4)] → fX5_stand_88 N x1 x2 x3 x4 m = some fin → W p l e rmX5_stand s mm args below meth c H locs 0 0 (MQ below (QV D ca ad s.heap.size fin) args s 0 0 (WA ca ad s.heap.size)) (F0 mm 88 ls []) := by
  have hx := X.1
  have hb := X.2.1
  intro x1 x2 x3 x4 m H locs ls hx1 hx2 hI hl hm
  have hm : (if x3 < 0 ∨ 6 ≤ x3.toNatClampNeg then none else (if x3 < 0 ∨ 6 ≤ x3.toNatClampNeg then none else (if x3 < 0 ∨ 6 ≤ x3.toNatClampNeg then none else (if x3 < 0 ∨ 6 ≤ x3.toNatClampNeg then none else (if x3 < 0 ∨ 6 ≤ x3.toNatClampNeg then none else ((fX6_worthOf N x1 (2 : Int32) x2 x3 x4 ((mI (mI m (x2 + 6) x3.toNatClampNeg (imin (9999 : Int32) ((m.1 (x2 + 6) x3.toNatClampNeg) + (1 : Int32)))) (x2 + 8) x3.toNatClampNeg (((mI m (x2 + 6) x3.toNatClampNeg (imin (9999 : Int32) ((m.1 (x2 + 6) x3.toNatClampNeg) + (1 : Int32)))).1 (x2 + 8) x3.toNatClampNeg) + (1 : Int32))).1 (x2 + 8) x3.toNatClampNeg) (mI (mI m (x2 + 6) x3.toNatClampNeg (imin (9999 : Int32) ((m.1 (x2 + 6) x3.toNatClampNeg) + (1 : Int32)))) (x2 + 8) x3.toNatClampNeg (((mI m (x2 + 6) x3.toNatClampNeg (imin (9999 : Int32) ((m.1 (x2 + 6) x3.toNatClampNeg) + (1 : Int32)))).1 (x2 + 8) x3.toNatClampNeg) + (1 : Int32)))).bind (fun q17 => if (lg_cmp q17.1 (-9223372036854775808 : Int64)) = 0 then (fX5_stand_157 N x2 x3 (0 : Int32) q17.2) else ((fX5_within q17.1 (-9 : Int32) (9 : Int32) q17.2).bind (fun q20 => fX5_stand_157 N x2 x3 q20 q17.2))))))))) = some fin := hm
  refine lv_aload_n hx hb dX5_stand_88 rfl (lv_at hl 1 rfl) ?_
  refine gR X hI fdX5_151 hx2 rf0_5 dX5_stand_89 ?_
  refine lv_iload_n hx hb dX5_stand_92 rfl (lv_at hl 2 rfl) ?_
  refine lv_sipush (v := (9999 : Int32)) hx hb dX5_stand_93 (by decide) ?_
  refine lv_aload_n hx hb dX5_stand_96 rfl (lv_at hl 1 rfl) ?_
  refine gR X hI fdX5_151 hx2 rf0_5 dX5_stand_97 ?_
  refine lv_iload_n hx hb dX5_stand_100 rfl (lv_at hl 2 rfl) ?_
  obtain ⟨g12, hm⟩ := g_no hm
  refine aI X hI (lf0_5 hn hx2) g12 dX5_stand_101 ?_
  refine lv_iconst (v := (1 : Int32)) hx hb dX5_stand_102 (by decide) ?_
  refine lv_iadd hx hb dX5_stand_103 ?_
  refine kMin X mpX5_96 hl.1 (Nat.le_of_ble_eq_true rfl) (Nat.le_of_ble_eq_true rfl) dX5_stand_104 ?_
  obtain ⟨g13, hm⟩ := g_no hm
  refine sI X hI (lf0_5 hn hx2) g13 dX5_stand_107 (fun H locs hI => ?_)
  refine lv_aload_n hx hb dX5_stand_108 rfl (lv_at hl 1 rfl) ?_
  refine gR X hI fdX5_130 hx2 rf0_7 dX5_stand_109 ?_
  refine lv_iload_n hx hb dX5_stand_112 rfl (lv_at hl 2 rfl) ?_
  refine lv_dup2_11 hx hb dX5_stand_113 rfl rfl ?_
  obtain ⟨g14, hm⟩ := g_no hm
  refine aI X hI (lf0_7 hn hx2) g14 dX5_stand_114 ?_
  refine lv_iconst (v := (1 : Int32)) hx hb dX5_stand_115 (by decide) ?_
  refine lv_iadd hx hb dX5_stand_116 ?_
  obtain ⟨g15, hm⟩ := g_no hm
  refine sI X hI (lf0_7 hn hx2) g15 dX5_stand_117 (fun H locs hI => ?_)
  refine lv_aload_n hx hb dX5_stand_118 rfl (lv_at hl 0 rfl) ?_
  refine lv_iconst (v := (2 : Int32)) hx hb dX5_stand_119 (by decide) ?_
  refine lv_aload_n hx hb dX5_stand_120 rfl (lv_at hl 1 rfl) ?_
  refine lv_iload_n hx hb dX5_stand_121 rfl (lv_at hl 2 rfl) ?_
  refine lv_iload hx hb dX5_stand_122 (lv_at hl 3 rfl) ?_
  refine lv_aload_n hx hb dX5_stand_124 rfl (lv_at hl 1 rfl) ?_
  refine gR X hI fdX5_130 hx2 rf0_7 dX5_stand_125 ?_
  refine lv_iload_n hx hb dX5_stand_128 rfl (lv_at hl 2 rfl) ?_
  obtain ⟨g16, hm⟩ := g_no hm
  refine aI X hI (lf0_7 hn hx2) g16 dX5_stand_129 ?_
  obtain ⟨q17, h18, hm⟩ := g_b hm
  refine backL X hI (runV X hI (ctX6_worthOf N x1 (2 : Int32) x2 x3 x4 ((mI (mI m (x2 + 6) x3.toNatClampNeg (imin (9999 : Int32) ((m.1 (x2 + 6) x3.toNatClampNeg) + (1 : Int32)))) (x2 + 8) x3.toNatClampNeg (((mI m (x2 + 6) x3.toNatClampNeg (imin (9999 : Int32) ((m.1 (x2 + 6) x3.toNatClampNeg) + (1 : Int32)))).1 (x2 + 8) x3.toNatClampNeg) + (1 : Int32))).1 (x2 + 8) x3.toNatClampNeg) hx1 hx2 hn _ _ h18 _) mdX5_107 hx1 rfl ⟨rfl, rfl⟩ ⟨Nat.le_of_ble_eq_true rfl, Nat.le_of_ble_eq_true rfl⟩ rfl hl.1 rfl (Nat.le_of_ble_eq_true rfl) dX5_stand_130) (fun H locs hI => ?_)
  refine lv_lstore (lv' := [(5, .long q17.1), (1, .ref (ad x1)), (2, .ref (ad x2)), (3, .int x3), (4, .int x4)]) hx hb dX5_stand_133 hl (by decide) rfl (fun ls hl => ?_)
  refine lv_lload hx hb dX5_stand_135 (lv_at hl 0 rfl) ?_
  refine lv_ldc2 hx hb X.2.2.2.1 (X.2.2.2.2.1 _ kcX5_111) dX5_stand_137 ?_
  refine W.lcmp hx hb dX5_stand_140 ?_
  refine lv_if_ne (tgt := 148) hx hb dX5_stand_141 (by decide) (fun c19 => ?_) (fun c19 => ?_)
  · have hm := g_f c19 hm
    refine lv_lload hx hb dX5_stand_148 (lv_at hl 0 rfl) ?_
    refine lv_bipush (v := (-9 : Int32)) hx hb dX5_stand_150 (by decide) ?_
    refine lv_bipush (v := (9 : Int32)) hx hb dX5_stand_152 (by decide) ?_
    obtain ⟨q20, h21, hm⟩ := g_b hm
    refine backI X hI (runS X hI (ctX5_within q17.1 (-9 : Int32) (9 : Int32)  hn _ _ h21 _) msX5_116 ⟨rfl, rfl⟩ ⟨Nat.le_of_ble_eq_true rfl, Nat.le_of_ble_eq_true rfl⟩ rfl hl.1 rfl (Nat.le_of_ble_eq_true rfl) dX5_stand_154) (fun H locs hI => ?_)
    exact tX5_stand_157 N hn X hr fin  x2 x3 q20 q17.2 H locs ls hx2 hI (lv_sub hl [2, 3] rfl) hm
  · have hm := g_t c19 hm
    refine lv_iconst (v := (0 : Int32)) hx hb dX5_stand_144 (by decide) ?_
    refine lv_goto (tgt := 157) hx hb dX5_stand_145 (by decide) ?_
    exact tX5_stand_157 N hn X hr fin  x2 x3 (0 : Int32) q17.2 H locs ls hx2 hI (lv_sub hl [2, 3] rfl) hm
def fX5_stand (N : Nat) (x1 : Nat) (x2 : Nat) (x3 : Int32) (m : Mem) : Option Mem := if x3 < 0 ∨ 6 ≤ x3.toNatClampNeg then none else ((fX6_hasTub x1 (m.1 (x2 + 5) x3.toNatClampNeg) m).bind (fun q2 => if q2 = 0 then (some m) else (if x3 < 0 ∨ 6 ≤ x3.toNatClampNeg then none else ((fX6_easeIn N x1 x2 x3 (m.1 (x2 + 5) x3.toNatClampNeg) (m.1 (x2 + 8) x3.toNatClampNeg) m).bind (fun q6 => if q6.1 = 0 then ((fX5_givesWay (q6.2.1 x1 6) x2 q6.2).bind (fun q9 => if q9.1 = 0 then (fX5_stand_88 N x1 x2 x3 (m.1 (x2 + 5) x3.toNatClampNeg) q9.2) else ((fX0_leave x2 x3 q9.2).bind (fun q26 => if x3 < 0 ∨ 6 ≤ x3.toNatClampNeg then none else (if x3 < 0 ∨ 6 ≤ x3.toNatClampNeg then none else (some (mI q26 (x2 + 9) x3.toNatClampNeg ((q26.1 (x2 + 9) x3.toNatClampNeg) + (1 : Int32))))))))) else (if x3 < 0 ∨ 6 ≤ x3.toNatClampNeg then none else (if (m.1 (x2 + 5) x3.toNatClampNeg) < 0 ∨ 6 ≤ (m.1 (x2 + 5) x3.toNatClampNeg).toNatClampNeg then none else (if x3 < 0 ∨ 6 ≤ x3.toNatClampNeg then none else (fX5_stand_88 N x1 x2 x3 (m.1 (x2 + 5) x3.toNatClampNeg) (mI q6.2 (x2 + 7) x3.toNatClampNeg (imax (q6.2.1 (x2 + 7) x3.toNatClampNeg) (q6.2.1 (x2 + 2) (m.1 (x2 + 5) x3.toNatClampNeg).toNatClampNeg))))))))))))
set_option maxHeartbeats 4000000 in
set_option maxRecDepth 100000 in
theorem ctX5_stand {l : Launch} {D : va_G} {ca : Nat → ClassId} {ad : Nat → Nat} (N : Nat) (x1 : Nat) (x2 : Nat) (x3 : Int32) (hx1 : ly ca x1 = (0, 6)) (hx2 : ly ca x2 = (0, 0)) (hn : HNc ca) (m : Mem) (fin : Mem) (hm : fX5_stand N x1 x2 x3 m = some fin) : CV l D ca ad yX5_stand cwX5_stand rmX5_stand [.ref (ad 73), .ref (ad x1), .ref (ad x2), .int x3] m fin := by
  refine start (by decide) (Nat.le_of_ble_eq_true rfl) ?_
  intro p e s mm args below meth c H locs ls X hI hr hl
  have X : CX p s mm args meth c cX5_stand 8 RX5 D ca ad (WA ca ad s.heap.size) := X
  have hx := X.1
  have hb := X.2.1
  have hl : lv_has ls 8 [(0, .ref (ad 73)), (1, .ref (ad x1)), (2, .ref (ad x2)), (3, .int x3)] := hl
  have hm : (if x3 < 0 ∨ 6 ≤ x3.toNatClampNeg then none else ((fX6_hasTub x1 (m.1 (x2 + 5) x3.toNatClampNeg) m).bind (fun q2 => if q2 = 0 then (some m) else (if x3 < 0 ∨ 6 ≤ x3.toNatClampNeg then none else ((fX6_easeIn N x1 x2 x3 (m.1 (x2 + 5) x3.toNatClampNeg) (m.1 (x2 + 8) x3.toNatClampNeg) m).bind (fun q6 => if q6.1 = 0 then ((fX5_givesWay (q6.2.1 x1 6) x2 q6.2).bind (fun q9 => if q9.1 = 0 then (fX5_stand_88 N x1 x2 x3 (m.1 (x2 + 5) x3.toNatClampNeg) q9.2) else ((fX0_leave x2 x3 q9.2).bind (fun q26 => if x3 < 0 ∨ 6 ≤ x3.toNatClampNeg then none else (if x3 < 0 ∨ 6 ≤ x3.toNatClampNeg then none else (some (mI q26 (x2 + 9) x3.toNatClampNeg ((q26.1 (x2 + 9) x3.toNatClampNeg) + (1 : Int32))))))))) else (if x3 < 0 ∨ 6 ≤ x3.toNatClampNeg then none else (if (m.1 (x2 + 5) x3.toNatClampNeg) < 0 ∨ 6 ≤ (m.1 (x2 + 5) x3.toNatClampNeg).toNatClampNeg then none else (if x3 < 0 ∨ 6 ≤ x3.toNatClampNeg then none else (fX5_stand_88 N x1 x2 x3 (m.1 (x2 + 5) x3.toNatClampNeg) (mI q6.2 (x2 + 7) x3.toNatClampNeg (imax (q6.2.1 (x2 + 7) x3.toNatClampNeg) (q6.2.1 (x2 + 2) (m.1 (x2 + 5) x3.toNatClampNeg).toNatClampNeg))))))))))))) = some fin := hm
  refine lv_aload_n hx hb dX5_stand_0 rfl (lv_at hl 2 rfl) ?_
  refine gR X hI fdX5_68 hx2 rf0_4 dX5_stand_1 ?_
  refine lv_iload_n hx hb dX5_stand_4 rfl (lv_at hl 3 rfl) ?_
  obtain ⟨g1, hm⟩ := g_no hm
  refine aI X hI (lf0_4 hn hx2) g1 dX5_stand_5 ?_
  refine lv_istore (lv' := [(4, .int (m.1 (x2 + 5) x3.toNatClampNeg)), (0, .ref (ad 73)), (1, .ref (ad x1)), (2, .ref (ad x2)), (3, .int x3)]) hx hb dX5_stand_6 hl (by decide) rfl (fun ls hl => ?_)
  refine lv_aload_n hx hb dX5_stand_8 rfl (lv_at hl 2 rfl) ?_
  refine lv_iload hx hb dX5_stand_9 (lv_at hl 0 rfl) ?_
  obtain ⟨q2, h3, hm⟩ := g_b hm
  refine backI X hI (runV X hI (ctX6_hasTub x1 (m.1 (x2 + 5) x3.toNatClampNeg) hx1 hn _ _ h3 _) mdX5_126 hx1 rfl ⟨rfl, rfl⟩ ⟨Nat.le_of_ble_eq_true rfl, Nat.le_of_ble_eq_true rfl⟩ rfl hl.1 rfl (Nat.le_of_ble_eq_true rfl) dX5_stand_11) (fun H locs hI => ?_)
  refine lv_if_ne (tgt := 18) hx hb dX5_stand_14 (by decide) (fun c4 => ?_) (fun c4 => ?_)
  · have hm := g_f c4 hm
    refine lv_aload_n hx hb dX5_stand_18 rfl (lv_at hl 2 rfl) ?_
    refine lv_aload_n hx hb dX5_stand_19 rfl (lv_at hl 3 rfl) ?_
    refine lv_iload_n hx hb dX5_stand_20 rfl (lv_at hl 4 rfl) ?_
    refine lv_iload hx hb dX5_stand_21 (lv_at hl 0 rfl) ?_
    refine lv_aload_n hx hb dX5_stand_23 rfl (lv_at hl 3 rfl) ?_
    refine gR X hI fdX5_130 hx2 rf0_7 dX5_stand_24 ?_
    refine lv_iload_n hx hb dX5_stand_27 rfl (lv_at hl 4 rfl) ?_
    obtain ⟨g5, hm⟩ := g_no hm
    refine aI X hI (lf0_7 hn hx2) g5 dX5_stand_28 ?_
    obtain ⟨q6, h7, hm⟩ := g_b hm
    refine backI X hI (runV X hI (ctX6_easeIn N x1 x2 x3 (m.1 (x2 + 5) x3.toNatClampNeg) (m.1 (x2 + 8) x3.toNatClampNeg) hx1 hx2 hn _ _ h7 _) mdX5_133 hx1 rfl ⟨rfl, rfl⟩ ⟨Nat.le_of_ble_eq_true rfl, Nat.le_of_ble_eq_true rfl⟩ rfl hl.1 rfl (Nat.le_of_ble_eq_true rfl) dX5_stand_29) (fun H locs hI => ?_)
    refine lv_if_eq (tgt := 60) hx hb dX5_stand_32 (by decide) (fun c8 => ?_) (fun c8 => ?_)
    · have hm := g_t c8 hm
      refine lv_aload_n hx hb dX5_stand_60 rfl (lv_at hl 1 rfl) ?_
      refine lv_aload_n hx hb dX5_stand_61 rfl (lv_at hl 2 rfl) ?_
      refine gI X hI fdX5_28 hx1 dX5_stand_62 ?_
      refine lv_aload_n hx hb dX5_stand_65 rfl (lv_at hl 3 rfl) ?_
      obtain ⟨q9, h10, hm⟩ := g_b hm
      refine backI X hI (runV X hI (ctX5_givesWay (q6.2.1 x1 6) x2 hx2 hn _ _ h10 _) mdX5_140 (la_73 hn) rfl ⟨rfl, rfl⟩ ⟨Nat.le_of_ble_eq_true rfl, Nat.le_of_ble_eq_true rfl⟩ rfl hl.1 rfl (Nat.le_of_ble_eq_true rfl) dX5_stand_66) (fun H locs hI => ?_)
      refine lv_if_eq (tgt := 88) hx hb dX5_stand_69 (by decide) (fun c11 => ?_) (fun c11 => ?_)
      · have hm := g_t c11 hm
        exact tX5_stand_88 N hn X hr fin  x1 x2 x3 (m.1 (x2 + 5) x3.toNatClampNeg) q9.2 H locs ls hx1 hx2 hI (lv_sub hl [2, 3, 4, 0] rfl) hm
      · have hm := g_f c11 hm
        refine lv_aload_n hx hb dX5_stand_72 rfl (lv_at hl 3 rfl) ?_
        refine lv_iload_n hx hb dX5_stand_73 rfl (lv_at hl 4 rfl) ?_
        obtain ⟨q26, h27, hm⟩ := g_b hm
        refine backV X hI (runV X hI (ctX0_leave x2 x3 hx2 hn _ _ h27 _) mdX5_144 hx2 rfl ⟨rfl, rfl⟩ ⟨Nat.le_of_ble_eq_true rfl, Nat.le_of_ble_eq_true rfl⟩ rfl hl.1 rfl (Nat.le_of_ble_eq_true rfl) dX5_stand_74) (fun H locs hI => ?_)
        refine lv_aload_n hx hb dX5_stand_77 rfl (lv_at hl 3 rfl) ?_
        refine gR X hI fdX5_148 hx2 rf0_8 dX5_stand_78 ?_
        refine lv_iload_n hx hb dX5_stand_81 rfl (lv_at hl 4 rfl) ?_
        refine lv_dup2_11 hx hb dX5_stand_82 rfl rfl ?_
        obtain ⟨g28, hm⟩ := g_no hm
        refine aI X hI (lf0_8 hn hx2) g28 dX5_stand_83 ?_
        refine lv_iconst (v := (1 : Int32)) hx hb dX5_stand_84 (by decide) ?_
        refine lv_iadd hx hb dX5_stand_85 ?_
        obtain ⟨g29, hm⟩ := g_no hm
        refine sI X hI (lf0_8 hn hx2) g29 dX5_stand_86 (fun H locs hI => ?_)
        exact rV X hI hr (g_1 hm) dX5_stand_87
    · have hm := g_f c8 hm
      refine lv_aload_n hx hb dX5_stand_35 rfl (lv_at hl 3 rfl) ?_
      refine gR X hI fdX5_137 hx2 rf0_6 dX5_stand_36 ?_
      refine lv_iload_n hx hb dX5_stand_39 rfl (lv_at hl 4 rfl) ?_
      refine lv_aload_n hx hb dX5_stand_40 rfl (lv_at hl 3 rfl) ?_
      refine gR X hI fdX5_137 hx2 rf0_6 dX5_stand_41 ?_
      refine lv_iload_n hx hb dX5_stand_44 rfl (lv_at hl 4 rfl) ?_
      obtain ⟨g30, hm⟩ := g_no hm
      refine aI X hI (lf0_6 hn hx2) g30 dX5_stand_45 ?_
      refine lv_aload_n hx hb dX5_stand_46 rfl (lv_at hl 3 rfl) ?_
      refine gR X hI fdX5_101 hx2 rf0_1 dX5_stand_47 ?_
      refine lv_iload hx hb dX5_stand_50 (lv_at hl 0 rfl) ?_
      obtain ⟨g31, hm⟩ := g_no hm
      refine aI X hI (lf0_1 hn hx2) g31 dX5_stand_52 ?_
      refine kMax X mpX5_113 hl.1 (Nat.le_of_ble_eq_true rfl) (Nat.le_of_ble_eq_true rfl) dX5_stand_53 ?_
      obtain ⟨g32, hm⟩ := g_no hm
      refine sI X hI (lf0_6 hn hx2) g32 dX5_stand_56 (fun H locs hI => ?_)
      refine lv_goto (tgt := 88) hx hb dX5_stand_57 (by decide) ?_
      exact tX5_stand_88 N hn X hr fin  x1 x2 x3 (m.1 (x2 + 5) x3.toNatClampNeg) (mI q6.2 (x2 + 7) x3.toNatClampNeg (imax (q6.2.1 (x2 + 7) x3.toNatClampNeg) (q6.2.1 (x2 + 2) (m.1 (x2 + 5) x3.toNatClampNeg).toNatClampNeg))) H locs ls hx1 hx2 hI (lv_sub hl [2, 3, 4, 0] rfl) hm
  · have hm := g_t c4 hm
    exact rV X hI hr (g_1 hm) dX5_stand_17
abbrev rmX5_pass : Room := { frames := 5, cells := 0, slots := 0, locals := 132 }
def fX5_pass_85 (N : Nat) (x2 : Nat) (m : Mem) : Option Mem := some (mI m x2 9 ((m.1 x2 9) + (1 : Int32)))
set_option maxHeartbeats 4000000 in
set_option maxRecDepth 100000 in
theorem tX5_pass_85 (N : Nat) {l : Launch} {D : va_G} {ca : Nat → ClassId} {ad : Nat → Nat} {p : Program} {e : Env} {s : State} {mm : MethodId} {args : Array Value} {below : List Frame} {meth : Method} {c : Code}  (hn : HNc ca) (X : CX p s mm args meth c cX5_pass 4 RX5 D ca ad (WA ca ad s.heap.size)) (hr : meth.sig.returnType = none) (fin : Mem)  : ∀ (x2 : Nat) (m : Mem) (H : Heap) (locs : List Loc) (ls : Array Slot), ly ca x2 = (0, 0) → IW D ca ad (WA ca ad s.heap.size) s m H locs → lv_has ls 4 [(2, .ref (ad x2))] → fX5_pass_85 N x2 m = some fin → W p l e rmX5_pass s mm args below meth c H locs 0 0 (MQ below (QV D ca ad s.heap.size fin) args s 0 0 (WA ca ad s.heap.size)) (F0 mm 85 ls []) := by
  have hx := X.1
  have hb := X.2.1
  intro x2 m H locs ls hx2 hI hl hm
  have hm : (some (mI m x2 9 ((m.1 x2 9) + (1 : Int32)))) = some fin := hm
  refine lv_aload_n hx hb dX5_pass_85 rfl (lv_at hl 0 rfl) ?_
  refine lv_dup hx hb dX5_pass_86 rfl ?_
  refine gI X hI fdX5_78 hx2 dX5_pass_87 ?_
  refine lv_iconst (v := (1 : Int32)) hx hb dX5_pass_90 (by decide) ?_
  refine lv_iadd hx hb dX5_pass_91 ?_
  refine pI X hI fpX5_78 hx2 dX5_pass_92 (fun H locs hI => ?_)
  exact rV X hI hr (g_1 hm) dX5_pass_95
def fX5_pass_46 (N : Nat) (k85 : Nat → Mem → Option Mem) : Nat → Nat → Nat → Int32 → Mem → Option Mem
  | 0, _, _, _, _ => none
  | n + 1, x1, x2, x3, m => if (m.1 (x1 + 1) 2) ≤ x3 then (k85 x2 m) else (if (6 : Int32) ≤ x3 then (k85 x2 m) else (if x3 < 0 ∨ 6 ≤ x3.toNatClampNeg then none else (if (m.1 (x2 + 5) x3.toNatClampNeg) < 0 then (fX5_pass_46 N k85 n x1 x2 (x3 + (1 : Int32)) m) else ((fX5_stand N x1 x2 x3 m).bind (fun q11 => fX5_pass_46 N k85 n x1 x2 (x3 + (1 : Int32)) q11)))))
set_option maxHeartbeats 4000000 in
set_option maxRecDepth 100000 in
theorem tX5_pass_46 (N : Nat) {l : Launch} {D : va_G} {ca : Nat → ClassId} {ad : Nat → Nat} {p : Program} {e : Env} {s : State} {mm : MethodId} {args : Array Value} {below : List Frame} {meth : Method} {c : Code} {k85 : Nat → Mem → Option Mem} (hn : HNc ca) (X : CX p s mm args meth c cX5_pass 4 RX5 D ca ad (WA ca ad s.heap.size)) (hr : meth.sig.returnType = none) (fin : Mem) (hk85 : ∀ (x2 : Nat) (m : Mem) (H : Heap) (locs : List Loc) (ls : Array Slot), ly ca x2 = (0, 0) → IW D ca ad (WA ca ad s.heap.size) s m H locs → lv_has ls 4 [(2, .ref (ad x2))] → k85 x2 m = some fin → W p l e rmX5_pass s mm args below meth c H locs 0 0 (MQ below (QV D ca ad s.heap.size fin) args s 0 0 (WA ca ad s.heap.size)) (F0 mm 85 ls [])) : ∀ (n : Nat) (x1 : Nat) (x2 : Nat) (x3 : Int32) (m : Mem) (H : Heap) (locs : List Loc) (ls : Array Slot), ly ca x1 = (0, 6) → ly ca x2 = (0, 0) → IW D ca ad (WA ca ad s.heap.size) s m H locs → lv_has ls 4 [(0, .ref (ad 73)), (1, .ref (ad x1)), (2, .ref (ad x2)), (3, .int x3)] → fX5_pass_46 N k85 n x1 x2 x3 m = some fin → W p l e rmX5_pass s mm args below meth c H locs 0 0 (MQ below (QV D ca ad s.heap.size fin) args s 0 0 (WA ca ad s.heap.size)) (F0 mm 46 ls []) := by
  have hx := X.1
  have hb := X.2.1
  intro n
  induction n with
  | zero => intro x1 x2 x3 m H locs ls hx1 hx2 hI hl hm
            exact absurd hm (by intro q; cases q)
  | succ n ih =>
    intro x1 x2 x3 m H locs ls hx1 hx2 hI hl hm
    have hm : (if (m.1 (x1 + 1) 2) ≤ x3 then (k85 x2 m) else (if (6 : Int32) ≤ x3 then (k85 x2 m) else (if x3 < 0 ∨ 6 ≤ x3.toNatClampNeg then none else (if (m.1 (x2 + 5) x3.toNatClampNeg) < 0 then (fX5_pass_46 N k85 n x1 x2 (x3 + (1 : Int32)) m) else ((fX5_stand N x1 x2 x3 m).bind (fun q11 => fX5_pass_46 N k85 n x1 x2 (x3 + (1 : Int32)) q11)))))) = some fin := hm
    refine lv_iload_n hx hb dX5_pass_46 rfl (lv_at hl 3 rfl) ?_
    refine lv_aload_n hx hb dX5_pass_47 rfl (lv_at hl 1 rfl) ?_
    refine gR X hI fdX5_60 hx1 rf6_0 dX5_pass_48 ?_
    refine gI X hI fdX5_63 (lf6_0 hn hx1) dX5_pass_51 ?_
    refine lv_icmp_ge (tgt := 85) hx hb dX5_pass_54 (by decide) (fun c7 => ?_) (fun c7 => ?_)
    · have hm := g_t c7 hm
      exact hk85 x2 m H locs ls hx2 hI (lv_sub hl [2] rfl) hm
    · have hm := g_f c7 hm
      refine lv_iload_n hx hb dX5_pass_57 rfl (lv_at hl 3 rfl) ?_
      refine lv_bipush (v := (6 : Int32)) hx hb dX5_pass_58 (by decide) ?_
      refine lv_icmp_ge (tgt := 85) hx hb dX5_pass_60 (by decide) (fun c8 => ?_) (fun c8 => ?_)
      · have hm := g_t c8 hm
        exact hk85 x2 m H locs ls hx2 hI (lv_sub hl [2] rfl) hm
      · have hm := g_f c8 hm
        refine lv_aload_n hx hb dX5_pass_63 rfl (lv_at hl 2 rfl) ?_
        refine gR X hI fdX5_68 hx2 rf0_4 dX5_pass_64 ?_
        refine lv_iload_n hx hb dX5_pass_67 rfl (lv_at hl 3 rfl) ?_
        obtain ⟨g9, hm⟩ := g_no hm
        refine aI X hI (lf0_4 hn hx2) g9 dX5_pass_68 ?_
        refine lv_if_lt (tgt := 79) hx hb dX5_pass_69 (by decide) (fun c10 => ?_) (fun c10 => ?_)
        · have hm := g_t c10 hm
          refine lv_iinc (v := (x3 + (1 : Int32))) (lv' := [(3, .int (x3 + (1 : Int32))), (0, .ref (ad 73)), (1, .ref (ad x1)), (2, .ref (ad x2))]) hx hb dX5_pass_79 hl (k := 3) rfl rfl (by decide) rfl (fun ls hl => ?_)
          refine lv_goto (tgt := 46) hx hb dX5_pass_82 (by decide) ?_
          exact ih x1 x2 (x3 + (1 : Int32)) m H locs ls hx1 hx2 hI (lv_sub hl [1, 2, 3, 0] rfl) hm
        · have hm := g_f c10 hm
          refine lv_aload_n hx hb dX5_pass_72 rfl (lv_at hl 0 rfl) ?_
          refine lv_aload_n hx hb dX5_pass_73 rfl (lv_at hl 1 rfl) ?_
          refine lv_aload_n hx hb dX5_pass_74 rfl (lv_at hl 2 rfl) ?_
          refine lv_iload_n hx hb dX5_pass_75 rfl (lv_at hl 3 rfl) ?_
          obtain ⟨q11, h12, hm⟩ := g_b hm
          refine backV X hI (runV X hI (ctX5_stand N x1 x2 x3 hx1 hx2 hn _ _ h12 _) mdX5_74 (la_73 hn) rfl ⟨rfl, rfl⟩ ⟨Nat.le_of_ble_eq_true rfl, Nat.le_of_ble_eq_true rfl⟩ rfl hl.1 rfl (Nat.le_of_ble_eq_true rfl) dX5_pass_76) (fun H locs hI => ?_)
          refine lv_iinc (v := (x3 + (1 : Int32))) (lv' := [(3, .int (x3 + (1 : Int32))), (0, .ref (ad 73)), (1, .ref (ad x1)), (2, .ref (ad x2))]) hx hb dX5_pass_79 hl (k := 3) rfl rfl (by decide) rfl (fun ls hl => ?_)
          refine lv_goto (tgt := 46) hx hb dX5_pass_82 (by decide) ?_
          exact ih x1 x2 (x3 + (1 : Int32)) q11 H locs ls hx1 hx2 hI (lv_sub hl [1, 2, 3, 0] rfl) hm
def fX5_pass_35 (N : Nat) (x1 : Nat) (x2 : Nat) (m : Mem) : Option Mem := (fX5_seatKnights N (x1 + 5) x2 m).bind (fun q5 => fX5_pass_46 N (fX5_pass_85 N) N x1 x2 (0 : Int32) q5)
set_option maxHeartbeats 4000000 in
set_option maxRecDepth 100000 in
theorem tX5_pass_35 (N : Nat) {l : Launch} {D : va_G} {ca : Nat → ClassId} {ad : Nat → Nat} {p : Program} {e : Env} {s : State} {mm : MethodId} {args : Array Value} {below : List Frame} {meth : Method} {c : Code}  (hn : HNc ca) (X : CX p s mm args meth c cX5_pass 4 RX5 D ca ad (WA ca ad s.heap.size)) (hr : meth.sig.returnType = none) (fin : Mem)  : ∀ (x1 : Nat) (x2 : Nat) (m : Mem) (H : Heap) (locs : List Loc) (ls : Array Slot), ly ca x1 = (0, 6) → ly ca x2 = (0, 0) → IW D ca ad (WA ca ad s.heap.size) s m H locs → lv_has ls 4 [(0, .ref (ad 73)), (1, .ref (ad x1)), (2, .ref (ad x2))] → fX5_pass_35 N x1 x2 m = some fin → W p l e rmX5_pass s mm args below meth c H locs 0 0 (MQ below (QV D ca ad s.heap.size fin) args s 0 0 (WA ca ad s.heap.size)) (F0 mm 35 ls []) := by
  have hx := X.1
  have hb := X.2.1
  intro x1 x2 m H locs ls hx1 hx2 hI hl hm
  have hm : ((fX5_seatKnights N (x1 + 5) x2 m).bind (fun q5 => fX5_pass_46 N (fX5_pass_85 N) N x1 x2 (0 : Int32) q5)) = some fin := hm
  refine lv_aload_n hx hb dX5_pass_35 rfl (lv_at hl 0 rfl) ?_
  refine lv_aload_n hx hb dX5_pass_36 rfl (lv_at hl 1 rfl) ?_
  refine gR X hI fdX5_54 hx1 rf6_2 dX5_pass_37 ?_
  refine lv_aload_n hx hb dX5_pass_40 rfl (lv_at hl 2 rfl) ?_
  obtain ⟨q5, h6, hm⟩ := g_b hm
  refine backV X hI (runV X hI (ctX5_seatKnights N (x1 + 5) x2 (lf6_2 hn hx1) hx2 hn _ _ h6 _) mdX5_57 (la_73 hn) rfl ⟨rfl, rfl⟩ ⟨Nat.le_of_ble_eq_true rfl, Nat.le_of_ble_eq_true rfl⟩ rfl hl.1 rfl (Nat.le_of_ble_eq_true rfl) dX5_pass_41) (fun H locs hI => ?_)
  refine lv_iconst (v := (0 : Int32)) hx hb dX5_pass_44 (by decide) ?_
  refine lv_istore_n (lv' := [(3, .int (0 : Int32)), (0, .ref (ad 73)), (1, .ref (ad x1)), (2, .ref (ad x2))]) hx hb dX5_pass_45 rfl hl (by decide) rfl (fun ls hl => ?_)
  exact tX5_pass_46 N hn X hr fin (tX5_pass_85 N hn X hr fin ) N x1 x2 (0 : Int32) q5 H locs ls hx1 hx2 hI (lv_sub hl [1, 2, 3, 0] rfl) hm
def fX5_pass_15 (N : Nat) (x1 : Nat) (x2 : Nat) (m : Mem) : Option Mem := (fX5_runPipes N (x1 + 9) x2 m).bind (fun q2 => if (q2.1 73 3) = 0 then (fX5_pass_35 N x1 x2 q2) else ((fX5_coolTubs N x1 x2 q2).bind (fun q13 => fX5_pass_35 N x1 x2 q13)))
set_option maxHeartbeats 4000000 in
set_option maxRecDepth 100000 in
theorem tX5_pass_15 (N : Nat) {l : Launch} {D : va_G} {ca : Nat → ClassId} {ad : Nat → Nat} {p : Program} {e : Env} {s : State} {mm : MethodId} {args : Array Value} {below : List Frame} {meth : Method} {c : Code}  (hn : HNc ca) (X : CX p s mm args meth c cX5_pass 4 RX5 D ca ad (WA ca ad s.heap.size)) (hr : meth.sig.returnType = none) (fin : Mem)  : ∀ (x1 : Nat) (x2 : Nat) (m : Mem) (H : Heap) (locs : List Loc) (ls : Array Slot), ly ca x1 = (0, 6) → ly ca x2 = (0, 0) → IW D ca ad (WA ca ad s.heap.size) s m H locs → lv_has ls 4 [(0, .ref (ad 73)), (1, .ref (ad x1)), (2, .ref (ad x2))] → fX5_pass_15 N x1 x2 m = some fin → W p l e rmX5_pass s mm args below meth c H locs 0 0 (MQ below (QV D ca ad s.heap.size fin) args s 0 0 (WA ca ad s.heap.size)) (F0 mm 15 ls []) := by
  have hx := X.1
  have hb := X.2.1
  intro x1 x2 m H locs ls hx1 hx2 hI hl hm
  have hm : ((fX5_runPipes N (x1 + 9) x2 m).bind (fun q2 => if (q2.1 73 3) = 0 then (fX5_pass_35 N x1 x2 q2) else ((fX5_coolTubs N x1 x2 q2).bind (fun q13 => fX5_pass_35 N x1 x2 q13)))) = some fin := hm
  refine lv_aload_n hx hb dX5_pass_15 rfl (lv_at hl 1 rfl) ?_
  refine gR X hI fdX5_45 hx1 rf6_4 dX5_pass_16 ?_
  refine lv_aload_n hx hb dX5_pass_19 rfl (lv_at hl 2 rfl) ?_
  obtain ⟨q2, h3, hm⟩ := g_b hm
  refine backV X hI (runS X hI (ctX5_runPipes N (x1 + 9) x2 (lf6_4 hn hx1) hx2 hn _ _ h3 _) msX5_48 ⟨rfl, rfl⟩ ⟨Nat.le_of_ble_eq_true rfl, Nat.le_of_ble_eq_true rfl⟩ rfl hl.1 rfl (Nat.le_of_ble_eq_true rfl) dX5_pass_20) (fun H locs hI => ?_)
  refine lv_aload_n hx hb dX5_pass_23 rfl (lv_at hl 0 rfl) ?_
  refine gI X hI fdX5_19 (la_73 hn) dX5_pass_24 ?_
  refine lv_if_eq (tgt := 35) hx hb dX5_pass_27 (by decide) (fun c4 => ?_) (fun c4 => ?_)
  · have hm := g_t c4 hm
    exact tX5_pass_35 N hn X hr fin  x1 x2 q2 H locs ls hx1 hx2 hI (lv_sub hl [0, 1, 2] rfl) hm
  · have hm := g_f c4 hm
    refine lv_aload_n hx hb dX5_pass_30 rfl (lv_at hl 1 rfl) ?_
    refine lv_aload_n hx hb dX5_pass_31 rfl (lv_at hl 2 rfl) ?_
    obtain ⟨q13, h14, hm⟩ := g_b hm
    refine backV X hI (runS X hI (ctX5_coolTubs N x1 x2 hx1 hx2 hn _ _ h14 _) msX5_51 ⟨rfl, rfl⟩ ⟨Nat.le_of_ble_eq_true rfl, Nat.le_of_ble_eq_true rfl⟩ rfl hl.1 rfl (Nat.le_of_ble_eq_true rfl) dX5_pass_32) (fun H locs hI => ?_)
    exact tX5_pass_35 N hn X hr fin  x1 x2 q13 H locs ls hx1 hx2 hI (lv_sub hl [0, 1, 2] rfl) hm
def fX5_pass (N : Nat) (x1 : Nat) (x2 : Nat) (m : Mem) : Option Mem := if (m.1 73 2) = 0 then (fX5_pass_15 N x1 x2 m) else ((fX5_bringCans N (x1 + 7) x2 m).bind (fun q15 => fX5_pass_15 N x1 x2 q15))
set_option maxHeartbeats 4000000 in
set_option maxRecDepth 100000 in
theorem ctX5_pass {l : Launch} {D : va_G} {ca : Nat → ClassId} {ad : Nat → Nat} (N : Nat) (x1 : Nat) (x2 : Nat) (hx1 : ly ca x1 = (0, 6)) (hx2 : ly ca x2 = (0, 0)) (hn : HNc ca) (m : Mem) (fin : Mem) (hm : fX5_pass N x1 x2 m = some fin) : CV l D ca ad yX5_pass cwX5_pass rmX5_pass [.ref (ad 73), .ref (ad x1), .ref (ad x2)] m fin := by
  refine start (by decide) (Nat.le_of_ble_eq_true rfl) ?_
  intro p e s mm args below meth c H locs ls X hI hr hl
  have X : CX p s mm args meth c cX5_pass 4 RX5 D ca ad (WA ca ad s.heap.size) := X
  have hx := X.1
  have hb := X.2.1
  have hl : lv_has ls 4 [(0, .ref (ad 73)), (1, .ref (ad x1)), (2, .ref (ad x2))] := hl
  have hm : (if (m.1 73 2) = 0 then (fX5_pass_15 N x1 x2 m) else ((fX5_bringCans N (x1 + 7) x2 m).bind (fun q15 => fX5_pass_15 N x1 x2 q15))) = some fin := hm
  refine lv_aload_n hx hb dX5_pass_0 rfl (lv_at hl 0 rfl) ?_
  refine gI X hI fdX5_15 (la_73 hn) dX5_pass_1 ?_
  refine lv_if_eq (tgt := 15) hx hb dX5_pass_4 (by decide) (fun c1 => ?_) (fun c1 => ?_)
  · have hm := g_t c1 hm
    exact tX5_pass_15 N hn X hr fin  x1 x2 m H locs ls hx1 hx2 hI (lv_sub hl [0, 1, 2] rfl) hm
  · have hm := g_f c1 hm
    refine lv_aload_n hx hb dX5_pass_7 rfl (lv_at hl 1 rfl) ?_
    refine gR X hI fdX5_37 hx1 rf6_3 dX5_pass_8 ?_
    refine lv_aload_n hx hb dX5_pass_11 rfl (lv_at hl 2 rfl) ?_
    obtain ⟨q15, h16, hm⟩ := g_b hm
    refine backV X hI (runS X hI (ctX5_bringCans N (x1 + 7) x2 (lf6_3 hn hx1) hx2 hn _ _ h16 _) msX5_41 ⟨rfl, rfl⟩ ⟨Nat.le_of_ble_eq_true rfl, Nat.le_of_ble_eq_true rfl⟩ rfl hl.1 rfl (Nat.le_of_ble_eq_true rfl) dX5_pass_12) (fun H locs hI => ?_)
    exact tX5_pass_15 N hn X hr fin  x1 x2 q15 H locs ls hx1 hx2 hI (lv_sub hl [0, 1, 2] rfl) hm
abbrev rmX2_find : Room := { frames := 6, cells := 0, slots := 0, locals := 155 }
def fX2_find_135 (N : Nat) (k22 : Nat → Int32 → Int32 → Int32 → Mem → Option (Int32 × Mem)) (x1 : Nat) (x4 : Int32) (x5 : Int32) (x6 : Int32) (x7 : Int32) (m : Mem) : Option (Int32 × Mem) := if x7 = 0 then (k22 x1 x4 x5 (x6 + (1 : Int32)) m) else (k22 x1 x4 x5 (x6 + (1 : Int32)) (mI m 83 2 ((m.1 83 2) ||| ((1 : Int32) <<< (x6 &&& 31)))))
set_option maxHeartbeats 4000000 in
set_option maxRecDepth 100000 in
theorem tX2_find_135 (N : Nat) {l : Launch} {D : va_G} {ca : Nat → ClassId} {ad : Nat → Nat} {p : Program} {e : Env} {s : State} {mm : MethodId} {args : Array Value} {below : List Frame} {meth : Method} {c : Code} {k22 : Nat → Int32 → Int32 → Int32 → Mem → Option (Int32 × Mem)} (hn : HNc ca) (X : CX p s mm args meth c cX2_find 9 RX2 D ca ad (WA ca ad s.heap.size)) (hr : meth.sig.returnType = (some .int)) (fin : (Int32 × Mem)) (hk22 : ∀ (x1 : Nat) (x4 : Int32) (x5 : Int32) (x6 : Int32) (m : Mem) (H : Heap) (locs : List Loc) (ls : Array Slot), ly ca x1 = (0, 6) → IW D ca ad (WA ca ad s.heap.size) s m H locs → lv_has ls 9 [(0, .ref (ad 83)), (1, .ref (ad x1)), (2, .ref (ad 73)), (3, .ref (ad 76)), (4, .int x4), (5, .int x5), (6, .int x6)] → k22 x1 x4 x5 x6 m = some fin → W p l e rmX2_find s mm args below meth c H locs 0 0 (MQ below (QI D ca ad s.heap.size fin.1 fin.2) args s 0 0 (WA ca ad s.heap.size)) (F0 mm 22 ls [])) : ∀ (x1 : Nat) (x4 : Int32) (x5 : Int32) (x6 : Int32) (x7 : Int32) (m : Mem) (H : Heap) (locs : List Loc) (ls : Array Slot), ly ca x1 = (0, 6) → IW D ca ad (WA ca ad s.heap.size) s m H locs → lv_has ls 9 [(0, .ref (ad 83)), (1, .ref (ad x1)), (2, .ref (ad 73)), (3, .ref (ad 76)), (4, .int x4), (5, .int x5), (6, .int x6), (7, .int x7)] → fX2_find_135 N k22 x1 x4 x5 x6 x7 m = some fin → W p l e rmX2_find s mm args below meth c H locs 0 0 (MQ below (QI D ca ad s.heap.size fin.1 fin.2) args s 0 0 (WA ca ad s.heap.size)) (F0 mm 135 ls []) := by
  have hx := X.1
  have hb := X.2.1
  intro x1 x4 x5 x6 x7 m H locs ls hx1 hI hl hm
  have hm : (if x7 = 0 then (k22 x1 x4 x5 (x6 + (1 : Int32)) m) else (k22 x1 x4 x5 (x6 + (1 : Int32)) (mI m 83 2 ((m.1 83 2) ||| ((1 : Int32) <<< (x6 &&& 31)))))) = some fin := hm
  refine lv_iload hx hb dX2_find_135 (lv_at hl 7 rfl) ?_
  refine lv_if_eq (tgt := 153) hx hb dX2_find_137 (by decide) (fun c9 => ?_) (fun c9 => ?_)
  · have hm := g_t c9 hm
    refine lv_iinc (v := (x6 + (1 : Int32))) (lv' := [(6, .int (x6 + (1 : Int32))), (0, .ref (ad 83)), (1, .ref (ad x1)), (2, .ref (ad 73)), (3, .ref (ad 76)), (4, .int x4), (5, .int x5), (7, .int x7)]) hx hb dX2_find_153 hl (k := 6) rfl rfl (by decide) rfl (fun ls hl => ?_)
    refine lv_goto (tgt := 22) hx hb dX2_find_156 (by decide) ?_
    exact hk22 x1 x4 x5 (x6 + (1 : Int32)) m H locs ls hx1 hI (lv_sub hl [1, 2, 3, 4, 5, 6, 0] rfl) hm
  · have hm := g_f c9 hm
    refine lv_aload_n hx hb dX2_find_140 rfl (lv_at hl 0 rfl) ?_
    refine lv_dup hx hb dX2_find_141 rfl ?_
    refine gI X hI fdX2_22 (la_83 hn) dX2_find_142 ?_
    refine lv_iconst (v := (1 : Int32)) hx hb dX2_find_145 (by decide) ?_
    refine lv_iload hx hb dX2_find_146 (lv_at hl 6 rfl) ?_
    refine lv_ishl hx hb dX2_find_148 ?_
    refine lv_ior hx hb dX2_find_149 ?_
    refine pI X hI fpX2_22 (la_83 hn) dX2_find_150 (fun H locs hI => ?_)
    refine lv_iinc (v := (x6 + (1 : Int32))) (lv' := [(6, .int (x6 + (1 : Int32))), (0, .ref (ad 83)), (1, .ref (ad x1)), (2, .ref (ad 73)), (3, .ref (ad 76)), (4, .int x4), (5, .int x5), (7, .int x7)]) hx hb dX2_find_153 hl (k := 6) rfl rfl (by decide) rfl (fun ls hl => ?_)
    refine lv_goto (tgt := 22) hx hb dX2_find_156 (by decide) ?_
    exact hk22 x1 x4 x5 (x6 + (1 : Int32)) (mI m 83 2 ((m.1 83 2) ||| ((1 : Int32) <<< (x6 &&& 31)))) H locs ls hx1 hI (lv_sub hl [1, 2, 3, 4, 5, 6, 0] rfl) hm
def fX2_find_66 (N : Nat) (k135 : Nat → Int32 → Int32 → Int32 → Int32 → Mem → Option (Int32 × Mem)) : Nat → Nat → Int32 → Int32 → Int32 → Int32 → Int32 → Mem → Option (Int32 × Mem)
  | 0, _, _, _, _, _, _, _ => none
  | n + 1, x1, x4, x5, x6, x7, x8, m => if x5 ≤ x8 then (k135 x1 x4 x5 x6 x7 m) else (if x7 = 0 then (k135 x1 x4 x5 x6 x7 m) else ((fX5_pass N x1 84 m).bind (fun q12 => (fX1_agreeWith N 84 q12).bind (fun q14 => if x4 < 0 ∨ 6 ≤ x4.toNatClampNeg then none else (if (q12.1 89 x4.toNatClampNeg) < 0 then (fX2_find_66 N k135 n x1 x4 x5 x6 q14 (x8 + (1 : Int32)) q12) else (if x6 < 0 ∨ 10 ≤ x6.toNatClampNeg then none else (if x6 < 0 ∨ 10 ≤ x6.toNatClampNeg then none else (fX2_find_66 N k135 n x1 x4 x5 x6 q14 (x8 + (1 : Int32)) (mJ q12 94 x6.toNatClampNeg ((q12.2.1 94 x6.toNatClampNeg) ||| ((1 : Int64) <<< ((q12.1 84 9).toInt64 &&& 63))))))))))))
set_option maxHeartbeats 4000000 in
set_option maxRecDepth 100000 in
theorem tX2_find_66 (N : Nat) {l : Launch} {D : va_G} {ca : Nat → ClassId} {ad : Nat → Nat} {p : Program} {e : Env} {s : State} {mm : MethodId} {args : Array Value} {below : List Frame} {meth : Method} {c : Code} {k135 : Nat → Int32 → Int32 → Int32 → Int32 → Mem → Option (Int32 × Mem)} (hn : HNc ca) (X : CX p s mm args meth c cX2_find 9 RX2 D ca ad (WA ca ad s.heap.size)) (hr : meth.sig.returnType = (some .int)) (fin : (Int32 × Mem)) (hk135 : ∀ (x1 : Nat) (x4 : Int32) (x5 : Int32) (x6 : Int32) (x7 : Int32) (m : Mem) (H : Heap) (locs : List Loc) (ls : Array Slot), ly ca x1 = (0, 6) → IW D ca ad (WA ca ad s.heap.size) s m H locs → lv_has ls 9 [(0, .ref (ad 83)), (1, .ref (ad x1)), (2, .ref (ad 73)), (3, .ref (ad 76)), (4, .int x4), (5, .int x5), (6, .int x6), (7, .int x7)] → k135 x1 x4 x5 x6 x7 m = some fin → W p l e rmX2_find s mm args below meth c H locs 0 0 (MQ below (QI D ca ad s.heap.size fin.1 fin.2) args s 0 0 (WA ca ad s.heap.size)) (F0 mm 135 ls [])) : ∀ (n : Nat) (x1 : Nat) (x4 : Int32) (x5 : Int32) (x6 : Int32) (x7 : Int32) (x8 : Int32) (m : Mem) (H : Heap) (locs : List Loc) (ls : Array Slot), ly ca x1 = (0, 6) → IW D ca ad (WA ca ad s.heap.size) s m H locs → lv_has ls 9 [(0, .ref (ad 83)), (1, .ref (ad x1)), (2, .ref (ad 73)), (3, .ref (ad 76)), (4, .int x4), (5, .int x5), (6, .int x6), (7, .int x7), (8, .int x8)] → fX2_find_66 N k135 n x1 x4 x5 x6 x7 x8 m = some fin → W p l e rmX2_find s mm args below meth c H locs 0 0 (MQ below (QI D ca ad s.heap.size fin.1 fin.2) args s 0 0 (WA ca ad s.heap.size)) (F0 mm 66 ls []) := by
  have hx := X.1
  have hb := X.2.1
  intro n
  induction n with
  | zero => intro x1 x4 x5 x6 x7 x8 m H locs ls hx1 hI hl hm
            exact absurd hm (by intro q; cases q)
  | succ n ih =>
    intro x1 x4 x5 x6 x7 x8 m H locs ls hx1 hI hl hm
    have hm : (if x5 ≤ x8 then (k135 x1 x4 x5 x6 x7 m) else (if x7 = 0 then (k135 x1 x4 x5 x6 x7 m) else ((fX5_pass N x1 84 m).bind (fun q12 => (fX1_agreeWith N 84 q12).bind (fun q14 => if x4 < 0 ∨ 6 ≤ x4.toNatClampNeg then none else (if (q12.1 89 x4.toNatClampNeg) < 0 then (fX2_find_66 N k135 n x1 x4 x5 x6 q14 (x8 + (1 : Int32)) q12) else (if x6 < 0 ∨ 10 ≤ x6.toNatClampNeg then none else (if x6 < 0 ∨ 10 ≤ x6.toNatClampNeg then none else (fX2_find_66 N k135 n x1 x4 x5 x6 q14 (x8 + (1 : Int32)) (mJ q12 94 x6.toNatClampNeg ((q12.2.1 94 x6.toNatClampNeg) ||| ((1 : Int64) <<< ((q12.1 84 9).toInt64 &&& 63))))))))))))) = some fin := hm
    refine lv_iload hx hb dX2_find_66 (lv_at hl 8 rfl) ?_
    refine lv_iload hx hb dX2_find_68 (lv_at hl 5 rfl) ?_
    refine lv_icmp_ge (tgt := 135) hx hb dX2_find_70 (by decide) (fun c10 => ?_) (fun c10 => ?_)
    · have hm := g_t c10 hm
      exact hk135 x1 x4 x5 x6 x7 m H locs ls hx1 hI (lv_sub hl [0, 1, 2, 3, 4, 5, 6, 7] rfl) hm
    · have hm := g_f c10 hm
      refine lv_iload hx hb dX2_find_73 (lv_at hl 7 rfl) ?_
      refine lv_if_eq (tgt := 135) hx hb dX2_find_75 (by decide) (fun c11 => ?_) (fun c11 => ?_)
      · have hm := g_t c11 hm
        exact hk135 x1 x4 x5 x6 x7 m H locs ls hx1 hI (lv_sub hl [0, 1, 2, 3, 4, 5, 6, 7] rfl) hm
      · have hm := g_f c11 hm
        refine lv_aload_n hx hb dX2_find_78 rfl (lv_at hl 2 rfl) ?_
        refine lv_aload_n hx hb dX2_find_79 rfl (lv_at hl 1 rfl) ?_
        refine lv_aload_n hx hb dX2_find_80 rfl (lv_at hl 0 rfl) ?_
        refine gR X hI fdX2_12 (la_83 hn) rf2_0 dX2_find_81 ?_
        obtain ⟨q12, h13, hm⟩ := g_b hm
        refine backV X hI (runV X hI (ctX5_pass N x1 84 hx1 (la_84 hn) hn _ _ h13 _) mdX2_40 (la_73 hn) rfl ⟨rfl, rfl⟩ ⟨Nat.le_of_ble_eq_true rfl, Nat.le_of_ble_eq_true rfl⟩ rfl hl.1 rfl (Nat.le_of_ble_eq_true rfl) dX2_find_84) (fun H locs hI => ?_)
        refine lv_aload_n hx hb dX2_find_87 rfl (lv_at hl 3 rfl) ?_
        refine lv_aload_n hx hb dX2_find_88 rfl (lv_at hl 0 rfl) ?_
        refine gR X hI fdX2_12 (la_83 hn) rf2_0 dX2_find_89 ?_
        obtain ⟨q14, h15, hm⟩ := g_b hm
        refine backI X hI (runV X hI (ctX1_agreeWith N 84 (la_84 hn) hn _ _ h15 _) mdX2_46 (la_76 hn) rfl ⟨rfl, rfl⟩ ⟨Nat.le_of_ble_eq_true rfl, Nat.le_of_ble_eq_true rfl⟩ rfl hl.1 rfl (Nat.le_of_ble_eq_true rfl) dX2_find_92) (fun H locs hI => ?_)
        refine lv_istore (lv' := [(7, .int q14), (0, .ref (ad 83)), (1, .ref (ad x1)), (2, .ref (ad 73)), (3, .ref (ad 76)), (4, .int x4), (5, .int x5), (6, .int x6), (8, .int x8)]) hx hb dX2_find_95 hl (by decide) rfl (fun ls hl => ?_)
        refine lv_aload_n hx hb dX2_find_97 rfl (lv_at hl 1 rfl) ?_
        refine gR X hI fdX2_12 (la_83 hn) rf2_0 dX2_find_98 ?_
        refine gR X hI fdX2_52 (la_84 hn) rf0_4 dX2_find_101 ?_
        refine lv_iload hx hb dX2_find_104 (lv_at hl 5 rfl) ?_
        obtain ⟨g16, hm⟩ := g_no hm
        refine aI X hI (la_89 hn) g16 dX2_find_106 ?_
        refine lv_if_lt (tgt := 129) hx hb dX2_find_107 (by decide) (fun c17 => ?_) (fun c17 => ?_)
        · have hm := g_t c17 hm
          refine lv_iinc (v := (x8 + (1 : Int32))) (lv' := [(8, .int (x8 + (1 : Int32))), (7, .int q14), (0, .ref (ad 83)), (1, .ref (ad x1)), (2, .ref (ad 73)), (3, .ref (ad 76)), (4, .int x4), (5, .int x5), (6, .int x6)]) hx hb dX2_find_129 hl (k := 8) rfl rfl (by decide) rfl (fun ls hl => ?_)
          refine lv_goto (tgt := 66) hx hb dX2_find_132 (by decide) ?_
          exact ih x1 x4 x5 x6 q14 (x8 + (1 : Int32)) q12 H locs ls hx1 hI (lv_sub hl [2, 3, 4, 5, 6, 7, 8, 1, 0] rfl) hm
        · have hm := g_f c17 hm
          refine lv_aload_n hx hb dX2_find_110 rfl (lv_at hl 1 rfl) ?_
          refine gR X hI fdX2_18 (la_83 hn) rf2_1 dX2_find_111 ?_
          refine lv_iload hx hb dX2_find_114 (lv_at hl 7 rfl) ?_
          refine lv_dup2_11 hx hb dX2_find_116 rfl rfl ?_
          obtain ⟨g18, hm⟩ := g_no hm
          refine aL X hI (la_94 hn) g18 dX2_find_117 ?_
          refine lv_lconst (v := (1 : Int64)) hx hb dX2_find_118 (by decide) ?_
          refine lv_aload_n hx hb dX2_find_119 rfl (lv_at hl 1 rfl) ?_
          refine gR X hI fdX2_12 (la_83 hn) rf2_0 dX2_find_120 ?_
          refine gI X hI fdX2_55 (la_84 hn) dX2_find_123 ?_
          refine lv_lshl hx hb dX2_find_126 rfl ?_
          refine lv_lor hx hb dX2_find_127 ?_
          obtain ⟨g19, hm⟩ := g_no hm
          refine sL X hI (la_94 hn) g19 dX2_find_128 (fun H locs hI => ?_)
          refine lv_iinc (v := (x8 + (1 : Int32))) (lv' := [(8, .int (x8 + (1 : Int32))), (7, .int q14), (0, .ref (ad 83)), (1, .ref (ad x1)), (2, .ref (ad 73)), (3, .ref (ad 76)), (4, .int x4), (5, .int x5), (6, .int x6)]) hx hb dX2_find_129 hl (k := 8) rfl rfl (by decide) rfl (fun ls hl => ?_)
          refine lv_goto (tgt := 66) hx hb dX2_find_132 (by decide) ?_
          exact ih x1 x4 x5 x6 q14 (x8 + (1 : Int32)) (mJ q12 94 x6.toNatClampNeg ((q12.2.1 94 x6.toNatClampNeg) ||| ((1 : Int64) <<< ((q12.1 84 9).toInt64 &&& 63)))) H locs ls hx1 hI (lv_sub hl [2, 3, 4, 5, 6, 7, 8, 1, 0] rfl) hm
def fX2_find_22 (N : Nat) : Nat → Nat → Int32 → Int32 → Int32 → Mem → Option (Int32 × Mem)
  | 0, _, _, _, _, _ => none
  | n + 1, x1, x4, x5, x6, m => if (10 : Int32) ≤ x6 then (some ((m.1 83 2), m)) else ((fX0_begin N 84 x1 m).bind (fun q5 => if x4 < 0 ∨ 6 ≤ x4.toNatClampNeg then none else (if x6 < 0 ∨ 10 ≤ x6.toNatClampNeg then none else (fX2_find_66 N (fX2_find_135 N (fun x1 x4 x5 x6 m => fX2_find_22 N n x1 x4 x5 x6 m)) N x1 x4 x5 x6 (1 : Int32) (0 : Int32) (mJ (mI q5 88 x4.toNatClampNeg ((10 : Int32) * x6)) 94 x6.toNatClampNeg (0 : Int64))))))
set_option maxHeartbeats 4000000 in
set_option maxRecDepth 100000 in
theorem tX2_find_22 (N : Nat) {l : Launch} {D : va_G} {ca : Nat → ClassId} {ad : Nat → Nat} {p : Program} {e : Env} {s : State} {mm : MethodId} {args : Array Value} {below : List Frame} {meth : Method} {c : Code}  (hn : HNc ca) (X : CX p s mm args meth c cX2_find 9 RX2 D ca ad (WA ca ad s.heap.size)) (hr : meth.sig.returnType = (some .int)) (fin : (Int32 × Mem))  : ∀ (n : Nat) (x1 : Nat) (x4 : Int32) (x5 : Int32) (x6 : Int32) (m : Mem) (H : Heap) (locs : List Loc) (ls : Array Slot), ly ca x1 = (0, 6) → IW D ca ad (WA ca ad s.heap.size) s m H locs → lv_has ls 9 [(0, .ref (ad 83)), (1, .ref (ad x1)), (2, .ref (ad 73)), (3, .ref (ad 76)), (4, .int x4), (5, .int x5), (6, .int x6)] → fX2_find_22 N n x1 x4 x5 x6 m = some fin → W p l e rmX2_find s mm args below meth c H locs 0 0 (MQ below (QI D ca ad s.heap.size fin.1 fin.2) args s 0 0 (WA ca ad s.heap.size)) (F0 mm 22 ls []) := by
  have hx := X.1
  have hb := X.2.1
  intro n
  induction n with
  | zero => intro x1 x4 x5 x6 m H locs ls hx1 hI hl hm
            exact absurd hm (by intro q; cases q)
  | succ n ih =>
    intro x1 x4 x5 x6 m H locs ls hx1 hI hl hm
    have hm : (if (10 : Int32) ≤ x6 then (some ((m.1 83 2), m)) else ((fX0_begin N 84 x1 m).bind (fun q5 => if x4 < 0 ∨ 6 ≤ x4.toNatClampNeg then none else (if x6 < 0 ∨ 10 ≤ x6.toNatClampNeg then none else (fX2_find_66 N (fX2_find_135 N (fun x1 x4 x5 x6 m => fX2_find_22 N n x1 x4 x5 x6 m)) N x1 x4 x5 x6 (1 : Int32) (0 : Int32) (mJ (mI q5 88 x4.toNatClampNeg ((10 : Int32) * x6)) 94 x6.toNatClampNeg (0 : Int64))))))) = some fin := hm
    refine lv_iload hx hb dX2_find_22 (lv_at hl 6 rfl) ?_
    refine lv_bipush (v := (10 : Int32)) hx hb dX2_find_24 (by decide) ?_
    refine lv_icmp_ge (tgt := 159) hx hb dX2_find_26 (by decide) (fun c4 => ?_) (fun c4 => ?_)
    · have hm := g_t c4 hm
      refine lv_aload_n hx hb dX2_find_159 rfl (lv_at hl 0 rfl) ?_
      refine gI X hI fdX2_22 (la_83 hn) dX2_find_160 ?_
      exact rI X hI hr (g_p hm).1 (g_p hm).2 dX2_find_163
    · have hm := g_f c4 hm
      refine lv_aload_n hx hb dX2_find_29 rfl (lv_at hl 0 rfl) ?_
      refine gR X hI fdX2_12 (la_83 hn) rf2_0 dX2_find_30 ?_
      refine lv_aload_n hx hb dX2_find_33 rfl (lv_at hl 1 rfl) ?_
      obtain ⟨q5, h6, hm⟩ := g_b hm
      refine backV X hI (runV X hI (ctX0_begin N 84 x1 (la_84 hn) hx1 hn _ _ h6 _) mdX2_32 (la_84 hn) rfl ⟨rfl, rfl⟩ ⟨Nat.le_of_ble_eq_true rfl, Nat.le_of_ble_eq_true rfl⟩ rfl hl.1 rfl (Nat.le_of_ble_eq_true rfl) dX2_find_34) (fun H locs hI => ?_)
      refine lv_aload_n hx hb dX2_find_37 rfl (lv_at hl 0 rfl) ?_
      refine gR X hI fdX2_12 (la_83 hn) rf2_0 dX2_find_38 ?_
      refine gR X hI fdX2_36 (la_84 hn) rf0_3 dX2_find_41 ?_
      refine lv_iload hx hb dX2_find_44 (lv_at hl 4 rfl) ?_
      refine lv_bipush (v := (10 : Int32)) hx hb dX2_find_46 (by decide) ?_
      refine lv_iload hx hb dX2_find_48 (lv_at hl 6 rfl) ?_
      refine lv_imul hx hb dX2_find_50 ?_
      obtain ⟨g7, hm⟩ := g_no hm
      refine sI X hI (la_88 hn) g7 dX2_find_51 (fun H locs hI => ?_)
      refine lv_aload_n hx hb dX2_find_52 rfl (lv_at hl 0 rfl) ?_
      refine gR X hI fdX2_18 (la_83 hn) rf2_1 dX2_find_53 ?_
      refine lv_iload hx hb dX2_find_56 (lv_at hl 6 rfl) ?_
      refine lv_lconst (v := (0 : Int64)) hx hb dX2_find_58 (by decide) ?_
      obtain ⟨g8, hm⟩ := g_no hm
      refine sL X hI (la_94 hn) g8 dX2_find_59 (fun H locs hI => ?_)
      refine lv_iconst (v := (1 : Int32)) hx hb dX2_find_60 (by decide) ?_
      refine lv_istore (lv' := [(7, .int (1 : Int32)), (0, .ref (ad 83)), (1, .ref (ad x1)), (2, .ref (ad 73)), (3, .ref (ad 76)), (4, .int x4), (5, .int x5), (6, .int x6)]) hx hb dX2_find_61 hl (by decide) rfl (fun ls hl => ?_)
      refine lv_iconst (v := (0 : Int32)) hx hb dX2_find_63 (by decide) ?_
      refine lv_istore (lv' := [(8, .int (0 : Int32)), (7, .int (1 : Int32)), (0, .ref (ad 83)), (1, .ref (ad x1)), (2, .ref (ad 73)), (3, .ref (ad 76)), (4, .int x4), (5, .int x5), (6, .int x6)]) hx hb dX2_find_64 hl (by decide) rfl (fun ls hl => ?_)
      exact tX2_find_66 N hn X hr fin (tX2_find_135 N hn X hr fin ih) N x1 x4 x5 x6 (1 : Int32) (0 : Int32) (mJ (mI q5 88 x4.toNatClampNeg ((10 : Int32) * x6)) 94 x6.toNatClampNeg (0 : Int64)) H locs ls hx1 hI (lv_sub hl [2, 3, 4, 5, 6, 7, 8, 1, 0] rfl) hm
def fX2_find (N : Nat) (x1 : Nat) (x4 : Int32) (x5 : Int32) (m : Mem) : Option (Int32 × Mem) := (fX6_hasKnight x1 x4 (mI m 83 2 (0 : Int32))).bind (fun q1 => if q1 = 0 then (some (((mI m 83 2 (0 : Int32)).1 83 2), (mI m 83 2 (0 : Int32)))) else (fX2_find_22 N N x1 x4 x5 (0 : Int32) (mI m 83 2 (0 : Int32))))
set_option maxHeartbeats 4000000 in
set_option maxRecDepth 100000 in
theorem ctX2_find {l : Launch} {D : va_G} {ca : Nat → ClassId} {ad : Nat → Nat} (N : Nat) (x1 : Nat) (x4 : Int32) (x5 : Int32) (hx1 : ly ca x1 = (0, 6)) (hn : HNc ca) (m : Mem) (fin : (Int32 × Mem)) (hm : fX2_find N x1 x4 x5 m = some fin) : CI l D ca ad yX2_find cwX2_find rmX2_find [.ref (ad 83), .ref (ad x1), .ref (ad 73), .ref (ad 76), .int x4, .int x5] m fin.1 fin.2 := by
  refine start (by decide) (Nat.le_of_ble_eq_true rfl) ?_
  intro p e s mm args below meth c H locs ls X hI hr hl
  have X : CX p s mm args meth c cX2_find 9 RX2 D ca ad (WA ca ad s.heap.size) := X
  have hx := X.1
  have hb := X.2.1
  have hl : lv_has ls 9 [(0, .ref (ad 83)), (1, .ref (ad x1)), (2, .ref (ad 73)), (3, .ref (ad 76)), (4, .int x4), (5, .int x5)] := hl
  have hm : ((fX6_hasKnight x1 x4 (mI m 83 2 (0 : Int32))).bind (fun q1 => if q1 = 0 then (some (((mI m 83 2 (0 : Int32)).1 83 2), (mI m 83 2 (0 : Int32)))) else (fX2_find_22 N N x1 x4 x5 (0 : Int32) (mI m 83 2 (0 : Int32))))) = some fin := hm
  refine lv_aload_n hx hb dX2_find_0 rfl (lv_at hl 0 rfl) ?_
  refine lv_iconst (v := (0 : Int32)) hx hb dX2_find_1 (by decide) ?_
  refine pI X hI fpX2_22 (la_83 hn) dX2_find_2 (fun H locs hI => ?_)
  refine lv_aload_n hx hb dX2_find_5 rfl (lv_at hl 1 rfl) ?_
  refine lv_iload hx hb dX2_find_6 (lv_at hl 4 rfl) ?_
  obtain ⟨q1, h2, hm⟩ := g_b hm
  refine backI X hI (runV X hI (ctX6_hasKnight x1 x4 hx1 hn _ _ h2 _) mdX2_26 hx1 rfl ⟨rfl, rfl⟩ ⟨Nat.le_of_ble_eq_true rfl, Nat.le_of_ble_eq_true rfl⟩ rfl hl.1 rfl (Nat.le_of_ble_eq_true rfl) dX2_find_8) (fun H locs hI => ?_)
  refine lv_if_ne (tgt := 19) hx hb dX2_find_11 (by decide) (fun c3 => ?_) (fun c3 => ?_)
  · have hm := g_f c3 hm
    refine lv_iconst (v := (0 : Int32)) hx hb dX2_find_19 (by decide) ?_
    refine lv_istore (lv' := [(6, .int (0 : Int32)), (0, .ref (ad 83)), (1, .ref (ad x1)), (2, .ref (ad 73)), (3, .ref (ad 76)), (4, .int x4), (5, .int x5)]) hx hb dX2_find_20 hl (by decide) rfl (fun ls hl => ?_)
    exact tX2_find_22 N hn X hr fin  N x1 x4 x5 (0 : Int32) (mI m 83 2 (0 : Int32)) H locs ls hx1 hI (lv_sub hl [1, 2, 3, 4, 5, 6, 0] rfl) hm
  · have hm := g_t c3 hm
    refine lv_aload_n hx hb dX2_find_14 rfl (lv_at hl 0 rfl) ?_
    refine gI X hI fdX2_22 (la_83 hn) dX2_find_15 ?_
    exact rI X hI hr (g_p hm).1 (g_p hm).2 dX2_find_18
abbrev rmJ6_bitCount_0f7a4 : Room := { frames := 0, cells := 0, slots := 0, locals := 0 }
def fJ6_bitCount_0f7a4  (x0 : Int32) (m : Mem) : Option Int32 := some ((((((((x0 - ((x0.toUInt32 >>> ((1 : Int32).toUInt32 &&& Int32.toUInt32 31)).toInt32 &&& (1431655765 : Int32))) &&& (858993459 : Int32)) + (((x0 - ((x0.toUInt32 >>> ((1 : Int32).toUInt32 &&& Int32.toUInt32 31)).toInt32 &&& (1431655765 : Int32))).toUInt32 >>> ((2 : Int32).toUInt32 &&& Int32.toUInt32 31)).toInt32 &&& (858993459 : Int32))) + ((((x0 - ((x0.toUInt32 >>> ((1 : Int32).toUInt32 &&& Int32.toUInt32 31)).toInt32 &&& (1431655765 : Int32))) &&& (858993459 : Int32)) + (((x0 - ((x0.toUInt32 >>> ((1 : Int32).toUInt32 &&& Int32.toUInt32 31)).toInt32 &&& (1431655765 : Int32))).toUInt32 >>> ((2 : Int32).toUInt32 &&& Int32.toUInt32 31)).toInt32 &&& (858993459 : Int32))).toUInt32 >>> ((4 : Int32).toUInt32 &&& Int32.toUInt32 31)).toInt32) &&& (252645135 : Int32)) + ((((((x0 - ((x0.toUInt32 >>> ((1 : Int32).toUInt32 &&& Int32.toUInt32 31)).toInt32 &&& (1431655765 : Int32))) &&& (858993459 : Int32)) + (((x0 - ((x0.toUInt32 >>> ((1 : Int32).toUInt32 &&& Int32.toUInt32 31)).toInt32 &&& (1431655765 : Int32))).toUInt32 >>> ((2 : Int32).toUInt32 &&& Int32.toUInt32 31)).toInt32 &&& (858993459 : Int32))) + ((((x0 - ((x0.toUInt32 >>> ((1 : Int32).toUInt32 &&& Int32.toUInt32 31)).toInt32 &&& (1431655765 : Int32))) &&& (858993459 : Int32)) + (((x0 - ((x0.toUInt32 >>> ((1 : Int32).toUInt32 &&& Int32.toUInt32 31)).toInt32 &&& (1431655765 : Int32))).toUInt32 >>> ((2 : Int32).toUInt32 &&& Int32.toUInt32 31)).toInt32 &&& (858993459 : Int32))).toUInt32 >>> ((4 : Int32).toUInt32 &&& Int32.toUInt32 31)).toInt32) &&& (252645135 : Int32)).toUInt32 >>> ((8 : Int32).toUInt32 &&& Int32.toUInt32 31)).toInt32) + (((((((x0 - ((x0.toUInt32 >>> ((1 : Int32).toUInt32 &&& Int32.toUInt32 31)).toInt32 &&& (1431655765 : Int32))) &&& (858993459 : Int32)) + (((x0 - ((x0.toUInt32 >>> ((1 : Int32).toUInt32 &&& Int32.toUInt32 31)).toInt32 &&& (1431655765 : Int32))).toUInt32 >>> ((2 : Int32).toUInt32 &&& Int32.toUInt32 31)).toInt32 &&& (858993459 : Int32))) + ((((x0 - ((x0.toUInt32 >>> ((1 : Int32).toUInt32 &&& Int32.toUInt32 31)).toInt32 &&& (1431655765 : Int32))) &&& (858993459 : Int32)) + (((x0 - ((x0.toUInt32 >>> ((1 : Int32).toUInt32 &&& Int32.toUInt32 31)).toInt32 &&& (1431655765 : Int32))).toUInt32 >>> ((2 : Int32).toUInt32 &&& Int32.toUInt32 31)).toInt32 &&& (858993459 : Int32))).toUInt32 >>> ((4 : Int32).toUInt32 &&& Int32.toUInt32 31)).toInt32) &&& (252645135 : Int32)) + ((((((x0 - ((x0.toUInt32 >>> ((1 : Int32).toUInt32 &&& Int32.toUInt32 31)).toInt32 &&& (1431655765 : Int32))) &&& (858993459 : Int32)) + (((x0 - ((x0.toUInt32 >>> ((1 : Int32).toUInt32 &&& Int32.toUInt32 31)).toInt32 &&& (1431655765 : Int32))).toUInt32 >>> ((2 : Int32).toUInt32 &&& Int32.toUInt32 31)).toInt32 &&& (858993459 : Int32))) + ((((x0 - ((x0.toUInt32 >>> ((1 : Int32).toUInt32 &&& Int32.toUInt32 31)).toInt32 &&& (1431655765 : Int32))) &&& (858993459 : Int32)) + (((x0 - ((x0.toUInt32 >>> ((1 : Int32).toUInt32 &&& Int32.toUInt32 31)).toInt32 &&& (1431655765 : Int32))).toUInt32 >>> ((2 : Int32).toUInt32 &&& Int32.toUInt32 31)).toInt32 &&& (858993459 : Int32))).toUInt32 >>> ((4 : Int32).toUInt32 &&& Int32.toUInt32 31)).toInt32) &&& (252645135 : Int32)).toUInt32 >>> ((8 : Int32).toUInt32 &&& Int32.toUInt32 31)).toInt32).toUInt32 >>> ((16 : Int32).toUInt32 &&& Int32.toUInt32 31)).toInt32) &&& (63 : Int32))
set_option maxHeartbeats 4000000 in
set_option maxRecDepth 100000 in
theorem ctJ6_bitCount_0f7a4 {l : Launch} {D : va_G} {ca : Nat → ClassId} {ad : Nat → Nat}  (x0 : Int32)  (hn : HNc ca) (m : Mem) (fin : Int32) (hm : fJ6_bitCount_0f7a4 x0 m = some fin) : CI l D ca ad yJ6_bitCount_0f7a4 cwJ6_bitCount_0f7a4 rmJ6_bitCount_0f7a4 [.int x0] m fin m := by
  refine start (by decide) (Nat.le_of_ble_eq_true rfl) ?_
  intro p e s mm args below meth c H locs ls X hI hr hl
  have X : CX p s mm args meth c cJ6_bitCount_0f7a4 1 RJ6 D ca ad (WA ca ad s.heap.size) := X
  have hx := X.1
  have hb := X.2.1
  have hl : lv_has ls 1 [(0, .int x0)] := hl
  have hm : (some ((((((((x0 - ((x0.toUInt32 >>> ((1 : Int32).toUInt32 &&& Int32.toUInt32 31)).toInt32 &&& (1431655765 : Int32))) &&& (858993459 : Int32)) + (((x0 - ((x0.toUInt32 >>> ((1 : Int32).toUInt32 &&& Int32.toUInt32 31)).toInt32 &&& (1431655765 : Int32))).toUInt32 >>> ((2 : Int32).toUInt32 &&& Int32.toUInt32 31)).toInt32 &&& (858993459 : Int32))) + ((((x0 - ((x0.toUInt32 >>> ((1 : Int32).toUInt32 &&& Int32.toUInt32 31)).toInt32 &&& (1431655765 : Int32))) &&& (858993459 : Int32)) + (((x0 - ((x0.toUInt32 >>> ((1 : Int32).toUInt32 &&& Int32.toUInt32 31)).toInt32 &&& (1431655765 : Int32))).toUInt32 >>> ((2 : Int32).toUInt32 &&& Int32.toUInt32 31)).toInt32 &&& (858993459 : Int32))).toUInt32 >>> ((4 : Int32).toUInt32 &&& Int32.toUInt32 31)).toInt32) &&& (252645135 : Int32)) + ((((((x0 - ((x0.toUInt32 >>> ((1 : Int32).toUInt32 &&& Int32.toUInt32 31)).toInt32 &&& (1431655765 : Int32))) &&& (858993459 : Int32)) + (((x0 - ((x0.toUInt32 >>> ((1 : Int32).toUInt32 &&& Int32.toUInt32 31)).toInt32 &&& (1431655765 : Int32))).toUInt32 >>> ((2 : Int32).toUInt32 &&& Int32.toUInt32 31)).toInt32 &&& (858993459 : Int32))) + ((((x0 - ((x0.toUInt32 >>> ((1 : Int32).toUInt32 &&& Int32.toUInt32 31)).toInt32 &&& (1431655765 : Int32))) &&& (858993459 : Int32)) + (((x0 - ((x0.toUInt32 >>> ((1 : Int32).toUInt32 &&& Int32.toUInt32 31)).toInt32 &&& (1431655765 : Int32))).toUInt32 >>> ((2 : Int32).toUInt32 &&& Int32.toUInt32 31)).toInt32 &&& (858993459 : Int32))).toUInt32 >>> ((4 : Int32).toUInt32 &&& Int32.toUInt32 31)).toInt32) &&& (252645135 : Int32)).toUInt32 >>> ((8 : Int32).toUInt32 &&& Int32.toUInt32 31)).toInt32) + (((((((x0 - ((x0.toUInt32 >>> ((1 : Int32).toUInt32 &&& Int32.toUInt32 31)).toInt32 &&& (1431655765 : Int32))) &&& (858993459 : Int32)) + (((x0 - ((x0.toUInt32 >>> ((1 : Int32).toUInt32 &&& Int32.toUInt32 31)).toInt32 &&& (1431655765 : Int32))).toUInt32 >>> ((2 : Int32).toUInt32 &&& Int32.toUInt32 31)).toInt32 &&& (858993459 : Int32))) + ((((x0 - ((x0.toUInt32 >>> ((1 : Int32).toUInt32 &&& Int32.toUInt32 31)).toInt32 &&& (1431655765 : Int32))) &&& (858993459 : Int32)) + (((x0 - ((x0.toUInt32 >>> ((1 : Int32).toUInt32 &&& Int32.toUInt32 31)).toInt32 &&& (1431655765 : Int32))).toUInt32 >>> ((2 : Int32).toUInt32 &&& Int32.toUInt32 31)).toInt32 &&& (858993459 : Int32))).toUInt32 >>> ((4 : Int32).toUInt32 &&& Int32.toUInt32 31)).toInt32) &&& (252645135 : Int32)) + ((((((x0 - ((x0.toUInt32 >>> ((1 : Int32).toUInt32 &&& Int32.toUInt32 31)).toInt32 &&& (1431655765 : Int32))) &&& (858993459 : Int32)) + (((x0 - ((x0.toUInt32 >>> ((1 : Int32).toUInt32 &&& Int32.toUInt32 31)).toInt32 &&& (1431655765 : Int32))).toUInt32 >>> ((2 : Int32).toUInt32 &&& Int32.toUInt32 31)).toInt32 &&& (858993459 : Int32))) + ((((x0 - ((x0.toUInt32 >>> ((1 : Int32).toUInt32 &&& Int32.toUInt32 31)).toInt32 &&& (1431655765 : Int32))) &&& (858993459 : Int32)) + (((x0 - ((x0.toUInt32 >>> ((1 : Int32).toUInt32 &&& Int32.toUInt32 31)).toInt32 &&& (1431655765 : Int32))).toUInt32 >>> ((2 : Int32).toUInt32 &&& Int32.toUInt32 31)).toInt32 &&& (858993459 : Int32))).toUInt32 >>> ((4 : Int32).toUInt32 &&& Int32.toUInt32 31)).toInt32) &&& (252645135 : Int32)).toUInt32 >>> ((8 : Int32).toUInt32 &&& Int32.toUInt32 31)).toInt32).toUInt32 >>> ((16 : Int32).toUInt32 &&& Int32.toUInt32 31)).toInt32) &&& (63 : Int32))) = some fin := hm
  have hpm : m = m := rfl
  refine lv_iload_n hx hb dJ6_bitCount_0f7a4_0 rfl (lv_at hl 0 rfl) ?_
  refine lv_iload_n hx hb dJ6_bitCount_0f7a4_1 rfl (lv_at hl 0 rfl) ?_
  refine lv_iconst (v := (1 : Int32)) hx hb dJ6_bitCount_0f7a4_2 (by decide) ?_
  refine lv_iushr hx hb dJ6_bitCount_0f7a4_3 rfl ?_
  refine lv_ldcw hx hb X.2.2.2.1 (X.2.2.2.2.1 _ kcJ6_265) dJ6_bitCount_0f7a4_4 ?_
  refine lv_iand hx hb dJ6_bitCount_0f7a4_7 ?_
  refine lv_isub hx hb dJ6_bitCount_0f7a4_8 ?_
  refine lv_istore_n (lv' := [(0, .int (x0 - ((x0.toUInt32 >>> ((1 : Int32).toUInt32 &&& Int32.toUInt32 31)).toInt32 &&& (1431655765 : Int32))))]) hx hb dJ6_bitCount_0f7a4_9 rfl hl (by decide) rfl (fun ls hl => ?_)
  refine lv_iload_n hx hb dJ6_bitCount_0f7a4_10 rfl (lv_at hl 0 rfl) ?_
  refine lv_ldcw hx hb X.2.2.2.1 (X.2.2.2.2.1 _ kcJ6_266) dJ6_bitCount_0f7a4_11 ?_
  refine lv_iand hx hb dJ6_bitCount_0f7a4_14 ?_
  refine lv_iload_n hx hb dJ6_bitCount_0f7a4_15 rfl (lv_at hl 0 rfl) ?_
  refine lv_iconst (v := (2 : Int32)) hx hb dJ6_bitCount_0f7a4_16 (by decide) ?_
  refine lv_iushr hx hb dJ6_bitCount_0f7a4_17 rfl ?_
  refine lv_ldcw hx hb X.2.2.2.1 (X.2.2.2.2.1 _ kcJ6_266) dJ6_bitCount_0f7a4_18 ?_
  refine lv_iand hx hb dJ6_bitCount_0f7a4_21 ?_
  refine lv_iadd hx hb dJ6_bitCount_0f7a4_22 ?_
  refine lv_istore_n (lv' := [(0, .int (((x0 - ((x0.toUInt32 >>> ((1 : Int32).toUInt32 &&& Int32.toUInt32 31)).toInt32 &&& (1431655765 : Int32))) &&& (858993459 : Int32)) + (((x0 - ((x0.toUInt32 >>> ((1 : Int32).toUInt32 &&& Int32.toUInt32 31)).toInt32 &&& (1431655765 : Int32))).toUInt32 >>> ((2 : Int32).toUInt32 &&& Int32.toUInt32 31)).toInt32 &&& (858993459 : Int32))))]) hx hb dJ6_bitCount_0f7a4_23 rfl hl (by decide) rfl (fun ls hl => ?_)
  refine lv_iload_n hx hb dJ6_bitCount_0f7a4_24 rfl (lv_at hl 0 rfl) ?_
  refine lv_iload_n hx hb dJ6_bitCount_0f7a4_25 rfl (lv_at hl 0 rfl) ?_
  refine lv_iconst (v := (4 : Int32)) hx hb dJ6_bitCount_0f7a4_26 (by decide) ?_
  refine lv_iushr hx hb dJ6_bitCount_0f7a4_27 rfl ?_
  refine lv_iadd hx hb dJ6_bitCount_0f7a4_28 ?_
  refine lv_ldcw hx hb X.2.2.2.1 (X.2.2.2.2.1 _ kcJ6_267) dJ6_bitCount_0f7a4_29 ?_
  refine lv_iand hx hb dJ6_bitCount_0f7a4_32 ?_
  refine lv_istore_n (lv' := [(0, .int (((((x0 - ((x0.toUInt32 >>> ((1 : Int32).toUInt32 &&& Int32.toUInt32 31)).toInt32 &&& (1431655765 : Int32))) &&& (858993459 : Int32)) + (((x0 - ((x0.toUInt32 >>> ((1 : Int32).toUInt32 &&& Int32.toUInt32 31)).toInt32 &&& (1431655765 : Int32))).toUInt32 >>> ((2 : Int32).toUInt32 &&& Int32.toUInt32 31)).toInt32 &&& (858993459 : Int32))) + ((((x0 - ((x0.toUInt32 >>> ((1 : Int32).toUInt32 &&& Int32.toUInt32 31)).toInt32 &&& (1431655765 : Int32))) &&& (858993459 : Int32)) + (((x0 - ((x0.toUInt32 >>> ((1 : Int32).toUInt32 &&& Int32.toUInt32 31)).toInt32 &&& (1431655765 : Int32))).toUInt32 >>> ((2 : Int32).toUInt32 &&& Int32.toUInt32 31)).toInt32 &&& (858993459 : Int32))).toUInt32 >>> ((4 : Int32).toUInt32 &&& Int32.toUInt32 31)).toInt32) &&& (252645135 : Int32)))]) hx hb dJ6_bitCount_0f7a4_33 rfl hl (by decide) rfl (fun ls hl => ?_)
  refine lv_iload_n hx hb dJ6_bitCount_0f7a4_34 rfl (lv_at hl 0 rfl) ?_
  refine lv_iload_n hx hb dJ6_bitCount_0f7a4_35 rfl (lv_at hl 0 rfl) ?_
  refine lv_bipush (v := (8 : Int32)) hx hb dJ6_bitCount_0f7a4_36 (by decide) ?_
  refine lv_iushr hx hb dJ6_bitCount_0f7a4_38 rfl ?_
  refine lv_iadd hx hb dJ6_bitCount_0f7a4_39 ?_
  refine lv_istore_n (lv' := [(0, .int ((((((x0 - ((x0.toUInt32 >>> ((1 : Int32).toUInt32 &&& Int32.toUInt32 31)).toInt32 &&& (1431655765 : Int32))) &&& (858993459 : Int32)) + (((x0 - ((x0.toUInt32 >>> ((1 : Int32).toUInt32 &&& Int32.toUInt32 31)).toInt32 &&& (1431655765 : Int32))).toUInt32 >>> ((2 : Int32).toUInt32 &&& Int32.toUInt32 31)).toInt32 &&& (858993459 : Int32))) + ((((x0 - ((x0.toUInt32 >>> ((1 : Int32).toUInt32 &&& Int32.toUInt32 31)).toInt32 &&& (1431655765 : Int32))) &&& (858993459 : Int32)) + (((x0 - ((x0.toUInt32 >>> ((1 : Int32).toUInt32 &&& Int32.toUInt32 31)).toInt32 &&& (1431655765 : Int32))).toUInt32 >>> ((2 : Int32).toUInt32 &&& Int32.toUInt32 31)).toInt32 &&& (858993459 : Int32))).toUInt32 >>> ((4 : Int32).toUInt32 &&& Int32.toUInt32 31)).toInt32) &&& (252645135 : Int32)) + ((((((x0 - ((x0.toUInt32 >>> ((1 : Int32).toUInt32 &&& Int32.toUInt32 31)).toInt32 &&& (1431655765 : Int32))) &&& (858993459 : Int32)) + (((x0 - ((x0.toUInt32 >>> ((1 : Int32).toUInt32 &&& Int32.toUInt32 31)).toInt32 &&& (1431655765 : Int32))).toUInt32 >>> ((2 : Int32).toUInt32 &&& Int32.toUInt32 31)).toInt32 &&& (858993459 : Int32))) + ((((x0 - ((x0.toUInt32 >>> ((1 : Int32).toUInt32 &&& Int32.toUInt32 31)).toInt32 &&& (1431655765 : Int32))) &&& (858993459 : Int32)) + (((x0 - ((x0.toUInt32 >>> ((1 : Int32).toUInt32 &&& Int32.toUInt32 31)).toInt32 &&& (1431655765 : Int32))).toUInt32 >>> ((2 : Int32).toUInt32 &&& Int32.toUInt32 31)).toInt32 &&& (858993459 : Int32))).toUInt32 >>> ((4 : Int32).toUInt32 &&& Int32.toUInt32 31)).toInt32) &&& (252645135 : Int32)).toUInt32 >>> ((8 : Int32).toUInt32 &&& Int32.toUInt32 31)).toInt32))]) hx hb dJ6_bitCount_0f7a4_40 rfl hl (by decide) rfl (fun ls hl => ?_)
  refine lv_iload_n hx hb dJ6_bitCount_0f7a4_41 rfl (lv_at hl 0 rfl) ?_
  refine lv_iload_n hx hb dJ6_bitCount_0f7a4_42 rfl (lv_at hl 0 rfl) ?_
  refine lv_bipush (v := (16 : Int32)) hx hb dJ6_bitCount_0f7a4_43 (by decide) ?_
  refine lv_iushr hx hb dJ6_bitCount_0f7a4_45 rfl ?_
  refine lv_iadd hx hb dJ6_bitCount_0f7a4_46 ?_
  refine lv_istore_n (lv' := [(0, .int (((((((x0 - ((x0.toUInt32 >>> ((1 : Int32).toUInt32 &&& Int32.toUInt32 31)).toInt32 &&& (1431655765 : Int32))) &&& (858993459 : Int32)) + (((x0 - ((x0.toUInt32 >>> ((1 : Int32).toUInt32 &&& Int32.toUInt32 31)).toInt32 &&& (1431655765 : Int32))).toUInt32 >>> ((2 : Int32).toUInt32 &&& Int32.toUInt32 31)).toInt32 &&& (858993459 : Int32))) + ((((x0 - ((x0.toUInt32 >>> ((1 : Int32).toUInt32 &&& Int32.toUInt32 31)).toInt32 &&& (1431655765 : Int32))) &&& (858993459 : Int32)) + (((x0 - ((x0.toUInt32 >>> ((1 : Int32).toUInt32 &&& Int32.toUInt32 31)).toInt32 &&& (1431655765 : Int32))).toUInt32 >>> ((2 : Int32).toUInt32 &&& Int32.toUInt32 31)).toInt32 &&& (858993459 : Int32))).toUInt32 >>> ((4 : Int32).toUInt32 &&& Int32.toUInt32 31)).toInt32) &&& (252645135 : Int32)) + ((((((x0 - ((x0.toUInt32 >>> ((1 : Int32).toUInt32 &&& Int32.toUInt32 31)).toInt32 &&& (1431655765 : Int32))) &&& (858993459 : Int32)) + (((x0 - ((x0.toUInt32 >>> ((1 : Int32).toUInt32 &&& Int32.toUInt32 31)).toInt32 &&& (1431655765 : Int32))).toUInt32 >>> ((2 : Int32).toUInt32 &&& Int32.toUInt32 31)).toInt32 &&& (858993459 : Int32))) + ((((x0 - ((x0.toUInt32 >>> ((1 : Int32).toUInt32 &&& Int32.toUInt32 31)).toInt32 &&& (1431655765 : Int32))) &&& (858993459 : Int32)) + (((x0 - ((x0.toUInt32 >>> ((1 : Int32).toUInt32 &&& Int32.toUInt32 31)).toInt32 &&& (1431655765 : Int32))).toUInt32 >>> ((2 : Int32).toUInt32 &&& Int32.toUInt32 31)).toInt32 &&& (858993459 : Int32))).toUInt32 >>> ((4 : Int32).toUInt32 &&& Int32.toUInt32 31)).toInt32) &&& (252645135 : Int32)).toUInt32 >>> ((8 : Int32).toUInt32 &&& Int32.toUInt32 31)).toInt32) + (((((((x0 - ((x0.toUInt32 >>> ((1 : Int32).toUInt32 &&& Int32.toUInt32 31)).toInt32 &&& (1431655765 : Int32))) &&& (858993459 : Int32)) + (((x0 - ((x0.toUInt32 >>> ((1 : Int32).toUInt32 &&& Int32.toUInt32 31)).toInt32 &&& (1431655765 : Int32))).toUInt32 >>> ((2 : Int32).toUInt32 &&& Int32.toUInt32 31)).toInt32 &&& (858993459 : Int32))) + ((((x0 - ((x0.toUInt32 >>> ((1 : Int32).toUInt32 &&& Int32.toUInt32 31)).toInt32 &&& (1431655765 : Int32))) &&& (858993459 : Int32)) + (((x0 - ((x0.toUInt32 >>> ((1 : Int32).toUInt32 &&& Int32.toUInt32 31)).toInt32 &&& (1431655765 : Int32))).toUInt32 >>> ((2 : Int32).toUInt32 &&& Int32.toUInt32 31)).toInt32 &&& (858993459 : Int32))).toUInt32 >>> ((4 : Int32).toUInt32 &&& Int32.toUInt32 31)).toInt32) &&& (252645135 : Int32)) + ((((((x0 - ((x0.toUInt32 >>> ((1 : Int32).toUInt32 &&& Int32.toUInt32 31)).toInt32 &&& (1431655765 : Int32))) &&& (858993459 : Int32)) + (((x0 - ((x0.toUInt32 >>> ((1 : Int32).toUInt32 &&& Int32.toUInt32 31)).toInt32 &&& (1431655765 : Int32))).toUInt32 >>> ((2 : Int32).toUInt32 &&& Int32.toUInt32 31)).toInt32 &&& (858993459 : Int32))) + ((((x0 - ((x0.toUInt32 >>> ((1 : Int32).toUInt32 &&& Int32.toUInt32 31)).toInt32 &&& (1431655765 : Int32))) &&& (858993459 : Int32)) + (((x0 - ((x0.toUInt32 >>> ((1 : Int32).toUInt32 &&& Int32.toUInt32 31)).toInt32 &&& (1431655765 : Int32))).toUInt32 >>> ((2 : Int32).toUInt32 &&& Int32.toUInt32 31)).toInt32 &&& (858993459 : Int32))).toUInt32 >>> ((4 : Int32).toUInt32 &&& Int32.toUInt32 31)).toInt32) &&& (252645135 : Int32)).toUInt32 >>> ((8 : Int32).toUInt32 &&& Int32.toUInt32 31)).toInt32).toUInt32 >>> ((16 : Int32).toUInt32 &&& Int32.toUInt32 31)).toInt32))]) hx hb dJ6_bitCount_0f7a4_47 rfl hl (by decide) rfl (fun ls hl => ?_)
  refine lv_iload_n hx hb dJ6_bitCount_0f7a4_48 rfl (lv_at hl 0 rfl) ?_
  refine lv_bipush (v := (63 : Int32)) hx hb dJ6_bitCount_0f7a4_49 (by decide) ?_
  refine lv_iand hx hb dJ6_bitCount_0f7a4_51 ?_
  exact rI X hI hr (g_1 hm) hpm dJ6_bitCount_0f7a4_52
abbrev rmX2_findQuestion : Room := { frames := 1, cells := 0, slots := 0, locals := 24 }
def fX2_findQuestion_76 (N : Nat) (k20 : Int32 → Int32 → Mem → Option Mem) (x1 : Int32) (x2 : Int32) (x3 : Int32) (m : Mem) : Option Mem := if (m.1 83 4) ≤ (imax x3 (x1 - x3)) then (k20 x1 (x2 + (1 : Int32)) m) else (k20 x1 (x2 + (1 : Int32)) (mI (mI m 83 4 (imax x3 (x1 - x3))) 83 3 x2))
set_option maxHeartbeats 4000000 in
set_option maxRecDepth 100000 in
theorem tX2_findQuestion_76 (N : Nat) {l : Launch} {D : va_G} {ca : Nat → ClassId} {ad : Nat → Nat} {p : Program} {e : Env} {s : State} {mm : MethodId} {args : Array Value} {below : List Frame} {meth : Method} {c : Code} {k20 : Int32 → Int32 → Mem → Option Mem} (hn : HNc ca) (X : CX p s mm args meth c cX2_findQuestion 5 RX2 D ca ad (WA ca ad s.heap.size)) (hr : meth.sig.returnType = none) (fin : Mem) (hk20 : ∀ (x1 : Int32) (x2 : Int32) (m : Mem) (H : Heap) (locs : List Loc) (ls : Array Slot), IW D ca ad (WA ca ad s.heap.size) s m H locs → lv_has ls 5 [(0, .ref (ad 83)), (1, .int x1), (2, .int x2)] → k20 x1 x2 m = some fin → W p l e rmX2_findQuestion s mm args below meth c H locs 0 0 (MQ below (QV D ca ad s.heap.size fin) args s 0 0 (WA ca ad s.heap.size)) (F0 mm 20 ls [])) : ∀ (x1 : Int32) (x2 : Int32) (x3 : Int32) (m : Mem) (H : Heap) (locs : List Loc) (ls : Array Slot), IW D ca ad (WA ca ad s.heap.size) s m H locs → lv_has ls 5 [(0, .ref (ad 83)), (1, .int x1), (2, .int x2), (3, .int x3)] → fX2_findQuestion_76 N k20 x1 x2 x3 m = some fin → W p l e rmX2_findQuestion s mm args below meth c H locs 0 0 (MQ below (QV D ca ad s.heap.size fin) args s 0 0 (WA ca ad s.heap.size)) (F0 mm 76 ls []) := by
  have hx := X.1
  have hb := X.2.1
  intro x1 x2 x3 m H locs ls hI hl hm
  have hm : (if (m.1 83 4) ≤ (imax x3 (x1 - x3)) then (k20 x1 (x2 + (1 : Int32)) m) else (k20 x1 (x2 + (1 : Int32)) (mI (mI m 83 4 (imax x3 (x1 - x3))) 83 3 x2))) = some fin := hm
  refine lv_iload_n hx hb dX2_findQuestion_76 rfl (lv_at hl 3 rfl) ?_
  refine lv_iload_n hx hb dX2_findQuestion_77 rfl (lv_at hl 1 rfl) ?_
  refine lv_iload_n hx hb dX2_findQuestion_78 rfl (lv_at hl 3 rfl) ?_
  refine lv_isub hx hb dX2_findQuestion_79 ?_
  refine kMax X mpX2_70 hl.1 (Nat.le_of_ble_eq_true rfl) (Nat.le_of_ble_eq_true rfl) dX2_findQuestion_80 ?_
  refine lv_istore (lv' := [(4, .int (imax x3 (x1 - x3))), (0, .ref (ad 83)), (1, .int x1), (2, .int x2), (3, .int x3)]) hx hb dX2_findQuestion_83 hl (by decide) rfl (fun ls hl => ?_)
  refine lv_iload hx hb dX2_findQuestion_85 (lv_at hl 0 rfl) ?_
  refine lv_aload_n hx hb dX2_findQuestion_87 rfl (lv_at hl 1 rfl) ?_
  refine gI X hI fdX2_67 (la_83 hn) dX2_findQuestion_88 ?_
  refine lv_icmp_ge (tgt := 105) hx hb dX2_findQuestion_91 (by decide) (fun c4 => ?_) (fun c4 => ?_)
  · have hm := g_t c4 hm
    refine lv_iinc (v := (x2 + (1 : Int32))) (lv' := [(2, .int (x2 + (1 : Int32))), (4, .int (imax x3 (x1 - x3))), (0, .ref (ad 83)), (1, .int x1), (3, .int x3)]) hx hb dX2_findQuestion_105 hl (k := 3) rfl rfl (by decide) rfl (fun ls hl => ?_)
    refine lv_goto (tgt := 20) hx hb dX2_findQuestion_108 (by decide) ?_
    exact hk20 x1 (x2 + (1 : Int32)) m H locs ls hI (lv_sub hl [2, 3, 0] rfl) hm
  · have hm := g_f c4 hm
    refine lv_aload_n hx hb dX2_findQuestion_94 rfl (lv_at hl 1 rfl) ?_
    refine lv_iload hx hb dX2_findQuestion_95 (lv_at hl 0 rfl) ?_
    refine pI X hI fpX2_67 (la_83 hn) dX2_findQuestion_97 (fun H locs hI => ?_)
    refine lv_aload_n hx hb dX2_findQuestion_100 rfl (lv_at hl 1 rfl) ?_
    refine lv_iload_n hx hb dX2_findQuestion_101 rfl (lv_at hl 3 rfl) ?_
    refine pI X hI fpX2_64 (la_83 hn) dX2_findQuestion_102 (fun H locs hI => ?_)
    refine lv_iinc (v := (x2 + (1 : Int32))) (lv' := [(2, .int (x2 + (1 : Int32))), (4, .int (imax x3 (x1 - x3))), (0, .ref (ad 83)), (1, .int x1), (3, .int x3)]) hx hb dX2_findQuestion_105 hl (k := 3) rfl rfl (by decide) rfl (fun ls hl => ?_)
    refine lv_goto (tgt := 20) hx hb dX2_findQuestion_108 (by decide) ?_
    exact hk20 x1 (x2 + (1 : Int32)) (mI (mI m 83 4 (imax x3 (x1 - x3))) 83 3 x2) H locs ls hI (lv_sub hl [2, 3, 0] rfl) hm
def fX2_findQuestion_31 (N : Nat) (k76 : Int32 → Int32 → Int32 → Mem → Option Mem) : Nat → Int32 → Int32 → Int32 → Int32 → Mem → Option Mem
  | 0, _, _, _, _, _ => none
  | n + 1, x1, x2, x3, x4, m => if (10 : Int32) ≤ x4 then (k76 x1 x2 x3 m) else (if (((m.1 83 2) >>> (x4 &&& 31)) &&& (1 : Int32)) = (1 : Int32) then (if x4 < 0 ∨ 10 ≤ x4.toNatClampNeg then none else (if (lg_cmp (((m.2.1 94 x4.toNatClampNeg) >>> (x2.toInt64 &&& 63)) &&& (1 : Int64)) (1 : Int64)) = 0 then (fX2_findQuestion_31 N k76 n x1 x2 (x3 + (1 : Int32)) (x4 + (1 : Int32)) m) else (fX2_findQuestion_31 N k76 n x1 x2 x3 (x4 + (1 : Int32)) m))) else (fX2_findQuestion_31 N k76 n x1 x2 x3 (x4 + (1 : Int32)) m))
set_option maxHeartbeats 4000000 in
set_option maxRecDepth 100000 in
theorem tX2_findQuestion_31 (N : Nat) {l : Launch} {D : va_G} {ca : Nat → ClassId} {ad : Nat → Nat} {p : Program} {e : Env} {s : State} {mm : MethodId} {args : Array Value} {below : List Frame} {meth : Method} {c : Code} {k76 : Int32 → Int32 → Int32 → Mem → Option Mem} (hn : HNc ca) (X : CX p s mm args meth c cX2_findQuestion 5 RX2 D ca ad (WA ca ad s.heap.size)) (hr : meth.sig.returnType = none) (fin : Mem) (hk76 : ∀ (x1 : Int32) (x2 : Int32) (x3 : Int32) (m : Mem) (H : Heap) (locs : List Loc) (ls : Array Slot), IW D ca ad (WA ca ad s.heap.size) s m H locs → lv_has ls 5 [(0, .ref (ad 83)), (1, .int x1), (2, .int x2), (3, .int x3)] → k76 x1 x2 x3 m = some fin → W p l e rmX2_findQuestion s mm args below meth c H locs 0 0 (MQ below (QV D ca ad s.heap.size fin) args s 0 0 (WA ca ad s.heap.size)) (F0 mm 76 ls [])) : ∀ (n : Nat) (x1 : Int32) (x2 : Int32) (x3 : Int32) (x4 : Int32) (m : Mem) (H : Heap) (locs : List Loc) (ls : Array Slot), IW D ca ad (WA ca ad s.heap.size) s m H locs → lv_has ls 5 [(0, .ref (ad 83)), (1, .int x1), (2, .int x2), (3, .int x3), (4, .int x4)] → fX2_findQuestion_31 N k76 n x1 x2 x3 x4 m = some fin → W p l e rmX2_findQuestion s mm args below meth c H locs 0 0 (MQ below (QV D ca ad s.heap.size fin) args s 0 0 (WA ca ad s.heap.size)) (F0 mm 31 ls []) := by
  have hx := X.1
  have hb := X.2.1
  intro n
  induction n with
  | zero => intro x1 x2 x3 x4 m H locs ls hI hl hm
            exact absurd hm (by intro q; cases q)
  | succ n ih =>
    intro x1 x2 x3 x4 m H locs ls hI hl hm
    have hm : (if (10 : Int32) ≤ x4 then (k76 x1 x2 x3 m) else (if (((m.1 83 2) >>> (x4 &&& 31)) &&& (1 : Int32)) = (1 : Int32) then (if x4 < 0 ∨ 10 ≤ x4.toNatClampNeg then none else (if (lg_cmp (((m.2.1 94 x4.toNatClampNeg) >>> (x2.toInt64 &&& 63)) &&& (1 : Int64)) (1 : Int64)) = 0 then (fX2_findQuestion_31 N k76 n x1 x2 (x3 + (1 : Int32)) (x4 + (1 : Int32)) m) else (fX2_findQuestion_31 N k76 n x1 x2 x3 (x4 + (1 : Int32)) m))) else (fX2_findQuestion_31 N k76 n x1 x2 x3 (x4 + (1 : Int32)) m))) = some fin := hm
    refine lv_iload hx hb dX2_findQuestion_31 (lv_at hl 4 rfl) ?_
    refine lv_bipush (v := (10 : Int32)) hx hb dX2_findQuestion_33 (by decide) ?_
    refine lv_icmp_ge (tgt := 76) hx hb dX2_findQuestion_35 (by decide) (fun c5 => ?_) (fun c5 => ?_)
    · have hm := g_t c5 hm
      exact hk76 x1 x2 x3 m H locs ls hI (lv_sub hl [0, 1, 2, 3] rfl) hm
    · have hm := g_f c5 hm
      refine lv_aload_n hx hb dX2_findQuestion_38 rfl (lv_at hl 0 rfl) ?_
      refine gI X hI fdX2_22 (la_83 hn) dX2_findQuestion_39 ?_
      refine lv_iload hx hb dX2_findQuestion_42 (lv_at hl 4 rfl) ?_
      refine lv_ishr hx hb dX2_findQuestion_44 ?_
      refine lv_iconst (v := (1 : Int32)) hx hb dX2_findQuestion_45 (by decide) ?_
      refine lv_iand hx hb dX2_findQuestion_46 ?_
      refine lv_iconst (v := (1 : Int32)) hx hb dX2_findQuestion_47 (by decide) ?_
      refine lv_icmp_ne (tgt := 70) hx hb dX2_findQuestion_48 (by decide) (fun c6 => ?_) (fun c6 => ?_)
      · have hm := g_f c6 hm
        refine lv_iinc (v := (x4 + (1 : Int32))) (lv' := [(4, .int (x4 + (1 : Int32))), (0, .ref (ad 83)), (1, .int x1), (2, .int x2), (3, .int x3)]) hx hb dX2_findQuestion_70 hl (k := 4) rfl rfl (by decide) rfl (fun ls hl => ?_)
        refine lv_goto (tgt := 31) hx hb dX2_findQuestion_73 (by decide) ?_
        exact ih x1 x2 x3 (x4 + (1 : Int32)) m H locs ls hI (lv_sub hl [1, 2, 3, 4, 0] rfl) hm
      · have hm := g_t c6 hm
        refine lv_aload_n hx hb dX2_findQuestion_51 rfl (lv_at hl 0 rfl) ?_
        refine gR X hI fdX2_18 (la_83 hn) rf2_1 dX2_findQuestion_52 ?_
        refine lv_iload hx hb dX2_findQuestion_55 (lv_at hl 4 rfl) ?_
        obtain ⟨g7, hm⟩ := g_no hm
        refine aL X hI (la_94 hn) g7 dX2_findQuestion_57 ?_
        refine lv_iload_n hx hb dX2_findQuestion_58 rfl (lv_at hl 2 rfl) ?_
        refine lv_lshr hx hb dX2_findQuestion_59 rfl ?_
        refine lv_lconst (v := (1 : Int64)) hx hb dX2_findQuestion_60 (by decide) ?_
        refine lv_land hx hb dX2_findQuestion_61 ?_
        refine lv_lconst (v := (1 : Int64)) hx hb dX2_findQuestion_62 (by decide) ?_
        refine W.lcmp hx hb dX2_findQuestion_63 ?_
        refine lv_if_ne (tgt := 70) hx hb dX2_findQuestion_64 (by decide) (fun c8 => ?_) (fun c8 => ?_)
        · have hm := g_f c8 hm
          refine lv_iinc (v := (x4 + (1 : Int32))) (lv' := [(4, .int (x4 + (1 : Int32))), (0, .ref (ad 83)), (1, .int x1), (2, .int x2), (3, .int x3)]) hx hb dX2_findQuestion_70 hl (k := 4) rfl rfl (by decide) rfl (fun ls hl => ?_)
          refine lv_goto (tgt := 31) hx hb dX2_findQuestion_73 (by decide) ?_
          exact ih x1 x2 x3 (x4 + (1 : Int32)) m H locs ls hI (lv_sub hl [1, 2, 3, 4, 0] rfl) hm
        · have hm := g_t c8 hm
          refine lv_iinc (v := (x3 + (1 : Int32))) (lv' := [(3, .int (x3 + (1 : Int32))), (0, .ref (ad 83)), (1, .int x1), (2, .int x2), (4, .int x4)]) hx hb dX2_findQuestion_67 hl (k := 3) rfl rfl (by decide) rfl (fun ls hl => ?_)
          refine lv_iinc (v := (x4 + (1 : Int32))) (lv' := [(4, .int (x4 + (1 : Int32))), (3, .int (x3 + (1 : Int32))), (0, .ref (ad 83)), (1, .int x1), (2, .int x2)]) hx hb dX2_findQuestion_70 hl (k := 4) rfl rfl (by decide) rfl (fun ls hl => ?_)
          refine lv_goto (tgt := 31) hx hb dX2_findQuestion_73 (by decide) ?_
          exact ih x1 x2 (x3 + (1 : Int32)) (x4 + (1 : Int32)) m H locs ls hI (lv_sub hl [2, 3, 4, 1, 0] rfl) hm
def fX2_findQuestion_20 (N : Nat) : Nat → Int32 → Int32 → Mem → Option Mem
  | 0, _, _, _ => none
  | n + 1, x1, x2, m => if (60 : Int32) < x2 then (some m) else (fX2_findQuestion_31 N (fX2_findQuestion_76 N (fun x1 x2 m => fX2_findQuestion_20 N n x1 x2 m)) N x1 x2 (0 : Int32) (0 : Int32) m)
set_option maxHeartbeats 4000000 in
set_option maxRecDepth 100000 in
theorem tX2_findQuestion_20 (N : Nat) {l : Launch} {D : va_G} {ca : Nat → ClassId} {ad : Nat → Nat} {p : Program} {e : Env} {s : State} {mm : MethodId} {args : Array Value} {below : List Frame} {meth : Method} {c : Code}  (hn : HNc ca) (X : CX p s mm args meth c cX2_findQuestion 5 RX2 D ca ad (WA ca ad s.heap.size)) (hr : meth.sig.returnType = none) (fin : Mem)  : ∀ (n : Nat) (x1 : Int32) (x2 : Int32) (m : Mem) (H : Heap) (locs : List Loc) (ls : Array Slot), IW D ca ad (WA ca ad s.heap.size) s m H locs → lv_has ls 5 [(0, .ref (ad 83)), (1, .int x1), (2, .int x2)] → fX2_findQuestion_20 N n x1 x2 m = some fin → W p l e rmX2_findQuestion s mm args below meth c H locs 0 0 (MQ below (QV D ca ad s.heap.size fin) args s 0 0 (WA ca ad s.heap.size)) (F0 mm 20 ls []) := by
  have hx := X.1
  have hb := X.2.1
  intro n
  induction n with
  | zero => intro x1 x2 m H locs ls hI hl hm
            exact absurd hm (by intro q; cases q)
  | succ n ih =>
    intro x1 x2 m H locs ls hI hl hm
    have hm : (if (60 : Int32) < x2 then (some m) else (fX2_findQuestion_31 N (fX2_findQuestion_76 N (fun x1 x2 m => fX2_findQuestion_20 N n x1 x2 m)) N x1 x2 (0 : Int32) (0 : Int32) m)) = some fin := hm
    refine lv_iload_n hx hb dX2_findQuestion_20 rfl (lv_at hl 2 rfl) ?_
    refine lv_bipush (v := (60 : Int32)) hx hb dX2_findQuestion_21 (by decide) ?_
    refine lv_icmp_gt (tgt := 111) hx hb dX2_findQuestion_23 (by decide) (fun c3 => ?_) (fun c3 => ?_)
    · have hm := g_t c3 hm
      exact rV X hI hr (g_1 hm) dX2_findQuestion_111
    · have hm := g_f c3 hm
      refine lv_iconst (v := (0 : Int32)) hx hb dX2_findQuestion_26 (by decide) ?_
      refine lv_istore_n (lv' := [(3, .int (0 : Int32)), (0, .ref (ad 83)), (1, .int x1), (2, .int x2)]) hx hb dX2_findQuestion_27 rfl hl (by decide) rfl (fun ls hl => ?_)
      refine lv_iconst (v := (0 : Int32)) hx hb dX2_findQuestion_28 (by decide) ?_
      refine lv_istore (lv' := [(4, .int (0 : Int32)), (3, .int (0 : Int32)), (0, .ref (ad 83)), (1, .int x1), (2, .int x2)]) hx hb dX2_findQuestion_29 hl (by decide) rfl (fun ls hl => ?_)
      exact tX2_findQuestion_31 N hn X hr fin (tX2_findQuestion_76 N hn X hr fin ih) N x1 x2 (0 : Int32) (0 : Int32) m H locs ls hI (lv_sub hl [2, 3, 4, 1, 0] rfl) hm
def fX2_findQuestion (N : Nat)  (m : Mem) : Option Mem := (fJ6_bitCount_0f7a4 (m.1 83 2) m).bind (fun q1 => fX2_findQuestion_20 N N q1 (1 : Int32) (mI (mI m 83 3 (1 : Int32)) 83 4 q1))
set_option maxHeartbeats 4000000 in
set_option maxRecDepth 100000 in
theorem ctX2_findQuestion {l : Launch} {D : va_G} {ca : Nat → ClassId} {ad : Nat → Nat} (N : Nat)   (hn : HNc ca) (m : Mem) (fin : Mem) (hm : fX2_findQuestion N m = some fin) : CV l D ca ad yX2_findQuestion cwX2_findQuestion rmX2_findQuestion [.ref (ad 83)] m fin := by
  refine start (by decide) (Nat.le_of_ble_eq_true rfl) ?_
  intro p e s mm args below meth c H locs ls X hI hr hl
  have X : CX p s mm args meth c cX2_findQuestion 5 RX2 D ca ad (WA ca ad s.heap.size) := X
  have hx := X.1
  have hb := X.2.1
  have hl : lv_has ls 5 [(0, .ref (ad 83))] := hl
  have hm : ((fJ6_bitCount_0f7a4 (m.1 83 2) m).bind (fun q1 => fX2_findQuestion_20 N N q1 (1 : Int32) (mI (mI m 83 3 (1 : Int32)) 83 4 q1))) = some fin := hm
  refine lv_aload_n hx hb dX2_findQuestion_0 rfl (lv_at hl 0 rfl) ?_
  refine gI X hI fdX2_22 (la_83 hn) dX2_findQuestion_1 ?_
  obtain ⟨q1, h2, hm⟩ := g_b hm
  refine backI X hI (runS X hI (ctJ6_bitCount_0f7a4 (m.1 83 2)  hn _ _ h2 _) msX2_58 ⟨rfl, rfl⟩ ⟨Nat.le_of_ble_eq_true rfl, Nat.le_of_ble_eq_true rfl⟩ rfl hl.1 rfl (Nat.le_of_ble_eq_true rfl) dX2_findQuestion_4) (fun H locs hI => ?_)
  refine lv_istore_n (lv' := [(1, .int q1), (0, .ref (ad 83))]) hx hb dX2_findQuestion_7 rfl hl (by decide) rfl (fun ls hl => ?_)
  refine lv_aload_n hx hb dX2_findQuestion_8 rfl (lv_at hl 1 rfl) ?_
  refine lv_iconst (v := (1 : Int32)) hx hb dX2_findQuestion_9 (by decide) ?_
  refine pI X hI fpX2_64 (la_83 hn) dX2_findQuestion_10 (fun H locs hI => ?_)
  refine lv_aload_n hx hb dX2_findQuestion_13 rfl (lv_at hl 1 rfl) ?_
  refine lv_iload_n hx hb dX2_findQuestion_14 rfl (lv_at hl 0 rfl) ?_
  refine pI X hI fpX2_67 (la_83 hn) dX2_findQuestion_15 (fun H locs hI => ?_)
  refine lv_iconst (v := (1 : Int32)) hx hb dX2_findQuestion_18 (by decide) ?_
  refine lv_istore_n (lv' := [(2, .int (1 : Int32)), (1, .int q1), (0, .ref (ad 83))]) hx hb dX2_findQuestion_19 rfl hl (by decide) rfl (fun ls hl => ?_)
  exact tX2_findQuestion_20 N hn X hr fin  N q1 (1 : Int32) (mI (mI m 83 3 (1 : Int32)) 83 4 q1) H locs ls hI (lv_sub hl [2, 1, 0] rfl) hm
abbrev rmX3_forget : Room := { frames := 0, cells := 0, slots := 0, locals := 0 }
def fX3_forget_12 (N : Nat) : Nat → Nat → Int32 → Mem → Option Mem
  | 0, _, _, _ => none
  | n + 1, x0, x1, m => if (2 : Int32) < x1 then (some m) else (if x1 < 0 ∨ 3 ≤ x1.toNatClampNeg then none else (if x1 < 0 ∨ 3 ≤ x1.toNatClampNeg then none else (fX3_forget_12 N n x0 (x1 + (1 : Int32)) (mI (mI m (x0 + 3) x1.toNatClampNeg (0 : Int32)) (x0 + 4) x1.toNatClampNeg (0 : Int32)))))
set_option maxHeartbeats 4000000 in
set_option maxRecDepth 100000 in
theorem tX3_forget_12 (N : Nat) {l : Launch} {D : va_G} {ca : Nat → ClassId} {ad : Nat → Nat} {p : Program} {e : Env} {s : State} {mm : MethodId} {args : Array Value} {below : List Frame} {meth : Method} {c : Code}  (hn : HNc ca) (X : CX p s mm args meth c cX3_forget 2 RX3 D ca ad (WA ca ad s.heap.size)) (hr : meth.sig.returnType = none) (fin : Mem)  : ∀ (n : Nat) (x0 : Nat) (x1 : Int32) (m : Mem) (H : Heap) (locs : List Loc) (ls : Array Slot), ly ca x0 = (0, 3) → IW D ca ad (WA ca ad s.heap.size) s m H locs → lv_has ls 2 [(0, .ref (ad x0)), (1, .int x1)] → fX3_forget_12 N n x0 x1 m = some fin → W p l e rmX3_forget s mm args below meth c H locs 0 0 (MQ below (QV D ca ad s.heap.size fin) args s 0 0 (WA ca ad s.heap.size)) (F0 mm 12 ls []) := by
  have hx := X.1
  have hb := X.2.1
  intro n
  induction n with
  | zero => intro x0 x1 m H locs ls hx0 hI hl hm
            exact absurd hm (by intro q; cases q)
  | succ n ih =>
    intro x0 x1 m H locs ls hx0 hI hl hm
    have hm : (if (2 : Int32) < x1 then (some m) else (if x1 < 0 ∨ 3 ≤ x1.toNatClampNeg then none else (if x1 < 0 ∨ 3 ≤ x1.toNatClampNeg then none else (fX3_forget_12 N n x0 (x1 + (1 : Int32)) (mI (mI m (x0 + 3) x1.toNatClampNeg (0 : Int32)) (x0 + 4) x1.toNatClampNeg (0 : Int32)))))) = some fin := hm
    refine lv_iload_n hx hb dX3_forget_12 rfl (lv_at hl 1 rfl) ?_
    refine lv_iconst (v := (2 : Int32)) hx hb dX3_forget_13 (by decide) ?_
    refine lv_icmp_gt (tgt := 37) hx hb dX3_forget_14 (by decide) (fun c1 => ?_) (fun c1 => ?_)
    · have hm := g_t c1 hm
      exact rV X hI hr (g_1 hm) dX3_forget_37
    · have hm := g_f c1 hm
      refine lv_aload_n hx hb dX3_forget_17 rfl (lv_at hl 0 rfl) ?_
      refine gR X hI fdX3_18 hx0 rf3_2 dX3_forget_18 ?_
      refine lv_iload_n hx hb dX3_forget_21 rfl (lv_at hl 1 rfl) ?_
      refine lv_iconst (v := (0 : Int32)) hx hb dX3_forget_22 (by decide) ?_
      obtain ⟨g2, hm⟩ := g_no hm
      refine sI X hI (lf3_2 hn hx0) g2 dX3_forget_23 (fun H locs hI => ?_)
      refine lv_aload_n hx hb dX3_forget_24 rfl (lv_at hl 0 rfl) ?_
      refine gR X hI fdX3_21 hx0 rf3_3 dX3_forget_25 ?_
      refine lv_iload_n hx hb dX3_forget_28 rfl (lv_at hl 1 rfl) ?_
      refine lv_iconst (v := (0 : Int32)) hx hb dX3_forget_29 (by decide) ?_
      obtain ⟨g3, hm⟩ := g_no hm
      refine sI X hI (lf3_3 hn hx0) g3 dX3_forget_30 (fun H locs hI => ?_)
      refine lv_iinc (v := (x1 + (1 : Int32))) (lv' := [(1, .int (x1 + (1 : Int32))), (0, .ref (ad x0))]) hx hb dX3_forget_31 hl (k := 1) rfl rfl (by decide) rfl (fun ls hl => ?_)
      refine lv_goto (tgt := 12) hx hb dX3_forget_34 (by decide) ?_
      exact ih x0 (x1 + (1 : Int32)) (mI (mI m (x0 + 3) x1.toNatClampNeg (0 : Int32)) (x0 + 4) x1.toNatClampNeg (0 : Int32)) H locs ls hx0 hI (lv_sub hl [1, 0] rfl) hm
def fX3_forget (N : Nat) (x0 : Nat) (m : Mem) : Option Mem := fX3_forget_12 N N x0 (0 : Int32) (mI (mI m x0 6 (0 : Int32)) x0 7 (0 : Int32))
set_option maxHeartbeats 4000000 in
set_option maxRecDepth 100000 in
theorem ctX3_forget {l : Launch} {D : va_G} {ca : Nat → ClassId} {ad : Nat → Nat} (N : Nat) (x0 : Nat) (hx0 : ly ca x0 = (0, 3)) (hn : HNc ca) (m : Mem) (fin : Mem) (hm : fX3_forget N x0 m = some fin) : CV l D ca ad yX3_forget cwX3_forget rmX3_forget [.ref (ad x0)] m fin := by
  refine start (by decide) (Nat.le_of_ble_eq_true rfl) ?_
  intro p e s mm args below meth c H locs ls X hI hr hl
  have X : CX p s mm args meth c cX3_forget 2 RX3 D ca ad (WA ca ad s.heap.size) := X
  have hx := X.1
  have hb := X.2.1
  have hl : lv_has ls 2 [(0, .ref (ad x0))] := hl
  have hm : (fX3_forget_12 N N x0 (0 : Int32) (mI (mI m x0 6 (0 : Int32)) x0 7 (0 : Int32))) = some fin := hm
  refine lv_aload_n hx hb dX3_forget_0 rfl (lv_at hl 0 rfl) ?_
  refine lv_iconst (v := (0 : Int32)) hx hb dX3_forget_1 (by decide) ?_
  refine pI X hI fpX3_31 hx0 dX3_forget_2 (fun H locs hI => ?_)
  refine lv_aload_n hx hb dX3_forget_5 rfl (lv_at hl 0 rfl) ?_
  refine lv_iconst (v := (0 : Int32)) hx hb dX3_forget_6 (by decide) ?_
  refine pI X hI fpX3_35 hx0 dX3_forget_7 (fun H locs hI => ?_)
  refine lv_iconst (v := (0 : Int32)) hx hb dX3_forget_10 (by decide) ?_
  refine lv_istore_n (lv' := [(1, .int (0 : Int32)), (0, .ref (ad x0))]) hx hb dX3_forget_11 rfl hl (by decide) rfl (fun ls hl => ?_)
  exact tX3_forget_12 N hn X hr fin  N x0 (0 : Int32) (mI (mI m x0 6 (0 : Int32)) x0 7 (0 : Int32)) H locs ls hx0 hI (lv_sub hl [1, 0] rfl) hm
