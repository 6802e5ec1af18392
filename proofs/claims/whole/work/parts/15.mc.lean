abbrev rmX10_takeWord : Room := { frames := 1, cells := 0, slots := 0, locals := 22 }
def fX10_takeWord_83 (N : Nat) (y0 : Int32) (m : Mem) : Option Mem := some (mI m 5 4 y0)
set_option maxHeartbeats 4000000 in
set_option maxRecDepth 100000 in
theorem tX10_takeWord_83 (N : Nat) {l : Launch} {D : va_G} {ca : Nat → ClassId} {ad : Nat → Nat} {p : Program} {e : Env} {s : State} {mm : MethodId} {args : Array Value} {below : List Frame} {meth : Method} {c : Code}  (hn : HNc ca) (X : CX p s mm args meth c cX10_takeWord 3 RX10 D ca ad (WA ca ad s.heap.size)) (hr : meth.sig.returnType = none) (fin : Mem)  : ∀ (y0 : Int32) (m : Mem) (H : Heap) (locs : List Loc) (ls : Array Slot), IW D ca ad (WA ca ad s.heap.size) s m H locs → lv_has ls 3 [] → fX10_takeWord_83 N y0 m = some fin → W p l e rmX10_takeWord s mm args below meth c H locs 0 0 (MQ below (QV D ca ad s.heap.size fin) args s 0 0 (WA ca ad s.heap.size)) (F0 mm 83 ls [.int y0, .ref (ad 5)]) := by
  have hx := X.1
  have hb := X.2.1
  intro y0 m H locs ls hI hl hm
  have hm : (some (mI m 5 4 y0)) = some fin := hm
  refine pI X hI fpX10_57 (la_5 hn) dX10_takeWord_83 (fun H locs hI => ?_)
  exact rV X hI hr (g_1 hm) dX10_takeWord_86
def fX10_takeWord_53 (N : Nat) (x1 : Int32) (m : Mem) : Option Mem := if x1 ≤ (6 : Int32) then ((fX10_kindOf N ((mI m 5 3 ((m.1 5 3) + x1)).1 5 6) (mI m 5 3 ((m.1 5 3) + x1))).bind (fun q2 => fX10_takeWord_83 N q2 (mI m 5 3 ((m.1 5 3) + x1)))) else (fX10_takeWord_83 N (-2 : Int32) (mI m 5 3 ((m.1 5 3) + x1)))
set_option maxHeartbeats 4000000 in
set_option maxRecDepth 100000 in
theorem tX10_takeWord_53 (N : Nat) {l : Launch} {D : va_G} {ca : Nat → ClassId} {ad : Nat → Nat} {p : Program} {e : Env} {s : State} {mm : MethodId} {args : Array Value} {below : List Frame} {meth : Method} {c : Code}  (hn : HNc ca) (X : CX p s mm args meth c cX10_takeWord 3 RX10 D ca ad (WA ca ad s.heap.size)) (hr : meth.sig.returnType = none) (fin : Mem)  : ∀ (x1 : Int32) (m : Mem) (H : Heap) (locs : List Loc) (ls : Array Slot), IW D ca ad (WA ca ad s.heap.size) s m H locs → lv_has ls 3 [(0, .ref (ad 5)), (1, .int x1)] → fX10_takeWord_53 N x1 m = some fin → W p l e rmX10_takeWord s mm args below meth c H locs 0 0 (MQ below (QV D ca ad s.heap.size fin) args s 0 0 (WA ca ad s.heap.size)) (F0 mm 53 ls []) := by
  have hx := X.1
  have hb := X.2.1
  intro x1 m H locs ls hI hl hm
  have hm : (if x1 ≤ (6 : Int32) then ((fX10_kindOf N ((mI m 5 3 ((m.1 5 3) + x1)).1 5 6) (mI m 5 3 ((m.1 5 3) + x1))).bind (fun q2 => fX10_takeWord_83 N q2 (mI m 5 3 ((m.1 5 3) + x1)))) else (fX10_takeWord_83 N (-2 : Int32) (mI m 5 3 ((m.1 5 3) + x1)))) = some fin := hm
  refine lv_aload_n hx hb dX10_takeWord_53 rfl (lv_at hl 0 rfl) ?_
  refine lv_dup hx hb dX10_takeWord_54 rfl ?_
  refine gI X hI fdX10_37 (la_5 hn) dX10_takeWord_55 ?_
  refine lv_iload_n hx hb dX10_takeWord_58 rfl (lv_at hl 1 rfl) ?_
  refine lv_iadd hx hb dX10_takeWord_59 ?_
  refine pI X hI fpX10_37 (la_5 hn) dX10_takeWord_60 (fun H locs hI => ?_)
  refine lv_aload_n hx hb dX10_takeWord_63 rfl (lv_at hl 0 rfl) ?_
  refine lv_iload_n hx hb dX10_takeWord_64 rfl (lv_at hl 1 rfl) ?_
  refine lv_bipush (v := (6 : Int32)) hx hb dX10_takeWord_65 (by decide) ?_
  refine lv_icmp_le (tgt := 75) hx hb dX10_takeWord_67 (by decide) (fun c1 => ?_) (fun c1 => ?_)
  · have hm := g_t c1 hm
    refine lv_aload_n hx hb dX10_takeWord_75 rfl (lv_at hl 0 rfl) ?_
    refine lv_aload_n hx hb dX10_takeWord_76 rfl (lv_at hl 0 rfl) ?_
    refine gI X hI fdX10_54 (la_5 hn) dX10_takeWord_77 ?_
    obtain ⟨q2, h3, hm⟩ := g_b hm
    refine backI X hI (runV X hI (ctX10_kindOf N ((mI m 5 3 ((m.1 5 3) + x1)).1 5 6)  hn _ _ h3 _) mdX10_75 (la_5 hn) rfl ⟨rfl, rfl⟩ ⟨Nat.le_of_ble_eq_true rfl, Nat.le_of_ble_eq_true rfl⟩ rfl hl.1 rfl (Nat.le_of_ble_eq_true rfl) dX10_takeWord_80) (fun H locs hI => ?_)
    exact tX10_takeWord_83 N hn X hr fin  q2 (mI m 5 3 ((m.1 5 3) + x1)) H locs ls hI (lv_sub hl [] rfl) hm
  · have hm := g_f c1 hm
    refine lv_bipush (v := (-2 : Int32)) hx hb dX10_takeWord_70 (by decide) ?_
    refine lv_goto (tgt := 83) hx hb dX10_takeWord_72 (by decide) ?_
    exact tX10_takeWord_83 N hn X hr fin  (-2 : Int32) (mI m 5 3 ((m.1 5 3) + x1)) H locs ls hI (lv_sub hl [] rfl) hm
def fX10_takeWord_7 (N : Nat) (k53 : Int32 → Mem → Option Mem) : Nat → Int32 → Int32 → Mem → Option Mem
  | 0, _, _, _ => none
  | n + 1, x1, x2, m => if (m.1 5 2) ≤ x2 then (k53 x1 m) else ((fX10_byteAt x2 m).bind (fun q5 => (fX10_isLetter q5 m).bind (fun q7 => if q7 = 0 then (k53 x1 m) else ((fX10_byteAt x2 m).bind (fun q10 => (fX10_placed q10 x1 m).bind (fun q12 => fX10_takeWord_7 N k53 n (x1 + (1 : Int32)) (x2 + (1 : Int32)) (mI m 5 6 ((m.1 5 6) ||| q12))))))))
set_option maxHeartbeats 4000000 in
set_option maxRecDepth 100000 in
theorem tX10_takeWord_7 (N : Nat) {l : Launch} {D : va_G} {ca : Nat → ClassId} {ad : Nat → Nat} {p : Program} {e : Env} {s : State} {mm : MethodId} {args : Array Value} {below : List Frame} {meth : Method} {c : Code} {k53 : Int32 → Mem → Option Mem} (hn : HNc ca) (X : CX p s mm args meth c cX10_takeWord 3 RX10 D ca ad (WA ca ad s.heap.size)) (hr : meth.sig.returnType = none) (fin : Mem) (hk53 : ∀ (x1 : Int32) (m : Mem) (H : Heap) (locs : List Loc) (ls : Array Slot), IW D ca ad (WA ca ad s.heap.size) s m H locs → lv_has ls 3 [(0, .ref (ad 5)), (1, .int x1)] → k53 x1 m = some fin → W p l e rmX10_takeWord s mm args below meth c H locs 0 0 (MQ below (QV D ca ad s.heap.size fin) args s 0 0 (WA ca ad s.heap.size)) (F0 mm 53 ls [])) : ∀ (n : Nat) (x1 : Int32) (x2 : Int32) (m : Mem) (H : Heap) (locs : List Loc) (ls : Array Slot), IW D ca ad (WA ca ad s.heap.size) s m H locs → lv_has ls 3 [(0, .ref (ad 5)), (1, .int x1), (2, .int x2)] → fX10_takeWord_7 N k53 n x1 x2 m = some fin → W p l e rmX10_takeWord s mm args below meth c H locs 0 0 (MQ below (QV D ca ad s.heap.size fin) args s 0 0 (WA ca ad s.heap.size)) (F0 mm 7 ls []) := by
  have hx := X.1
  have hb := X.2.1
  intro n
  induction n with
  | zero => intro x1 x2 m H locs ls hI hl hm
            exact absurd hm (by intro q; cases q)
  | succ n ih =>
    intro x1 x2 m H locs ls hI hl hm
    have hm : (if (m.1 5 2) ≤ x2 then (k53 x1 m) else ((fX10_byteAt x2 m).bind (fun q5 => (fX10_isLetter q5 m).bind (fun q7 => if q7 = 0 then (k53 x1 m) else ((fX10_byteAt x2 m).bind (fun q10 => (fX10_placed q10 x1 m).bind (fun q12 => fX10_takeWord_7 N k53 n (x1 + (1 : Int32)) (x2 + (1 : Int32)) (mI m 5 6 ((m.1 5 6) ||| q12))))))))) = some fin := hm
    refine lv_iload_n hx hb dX10_takeWord_7 rfl (lv_at hl 2 rfl) ?_
    refine lv_aload_n hx hb dX10_takeWord_8 rfl (lv_at hl 0 rfl) ?_
    refine gI X hI fdX10_33 (la_5 hn) dX10_takeWord_9 ?_
    refine lv_icmp_ge (tgt := 53) hx hb dX10_takeWord_12 (by decide) (fun c4 => ?_) (fun c4 => ?_)
    · have hm := g_t c4 hm
      exact hk53 x1 m H locs ls hI (lv_sub hl [0, 1] rfl) hm
    · have hm := g_f c4 hm
      refine lv_aload_n hx hb dX10_takeWord_15 rfl (lv_at hl 0 rfl) ?_
      refine lv_iload_n hx hb dX10_takeWord_16 rfl (lv_at hl 2 rfl) ?_
      obtain ⟨q5, h6, hm⟩ := g_b hm
      refine backI X hI (runV X hI (ctX10_byteAt x2  hn _ _ h6 _) mdX10_43 (la_5 hn) rfl ⟨rfl, rfl⟩ ⟨Nat.le_of_ble_eq_true rfl, Nat.le_of_ble_eq_true rfl⟩ rfl hl.1 rfl (Nat.le_of_ble_eq_true rfl) dX10_takeWord_17) (fun H locs hI => ?_)
      obtain ⟨q7, h8, hm⟩ := g_b hm
      refine backI X hI (runS X hI (ctX10_isLetter q5  hn _ _ h8 _) msX10_60 ⟨rfl, rfl⟩ ⟨Nat.le_of_ble_eq_true rfl, Nat.le_of_ble_eq_true rfl⟩ rfl hl.1 rfl (Nat.le_of_ble_eq_true rfl) dX10_takeWord_20) (fun H locs hI => ?_)
      refine lv_if_eq (tgt := 53) hx hb dX10_takeWord_23 (by decide) (fun c9 => ?_) (fun c9 => ?_)
      · have hm := g_t c9 hm
        exact hk53 x1 m H locs ls hI (lv_sub hl [0, 1] rfl) hm
      · have hm := g_f c9 hm
        refine lv_aload_n hx hb dX10_takeWord_26 rfl (lv_at hl 0 rfl) ?_
        refine lv_dup hx hb dX10_takeWord_27 rfl ?_
        refine gI X hI fdX10_54 (la_5 hn) dX10_takeWord_28 ?_
        refine lv_aload_n hx hb dX10_takeWord_31 rfl (lv_at hl 0 rfl) ?_
        refine lv_iload_n hx hb dX10_takeWord_32 rfl (lv_at hl 2 rfl) ?_
        obtain ⟨q10, h11, hm⟩ := g_b hm
        refine backI X hI (runV X hI (ctX10_byteAt x2  hn _ _ h11 _) mdX10_43 (la_5 hn) rfl ⟨rfl, rfl⟩ ⟨Nat.le_of_ble_eq_true rfl, Nat.le_of_ble_eq_true rfl⟩ rfl hl.1 rfl (Nat.le_of_ble_eq_true rfl) dX10_takeWord_33) (fun H locs hI => ?_)
        refine lv_iload_n hx hb dX10_takeWord_36 rfl (lv_at hl 1 rfl) ?_
        obtain ⟨q12, h13, hm⟩ := g_b hm
        refine backI X hI (runS X hI (ctX10_placed q10 x1  hn _ _ h13 _) msX10_29 ⟨rfl, rfl⟩ ⟨Nat.le_of_ble_eq_true rfl, Nat.le_of_ble_eq_true rfl⟩ rfl hl.1 rfl (Nat.le_of_ble_eq_true rfl) dX10_takeWord_37) (fun H locs hI => ?_)
        refine lv_ior hx hb dX10_takeWord_40 ?_
        refine pI X hI fpX10_54 (la_5 hn) dX10_takeWord_41 (fun H locs hI => ?_)
        refine lv_iinc (v := (x1 + (1 : Int32))) (lv' := [(1, .int (x1 + (1 : Int32))), (0, .ref (ad 5)), (2, .int x2)]) hx hb dX10_takeWord_44 hl (k := 1) rfl rfl (by decide) rfl (fun ls hl => ?_)
        refine lv_iinc (v := (x2 + (1 : Int32))) (lv' := [(2, .int (x2 + (1 : Int32))), (1, .int (x1 + (1 : Int32))), (0, .ref (ad 5))]) hx hb dX10_takeWord_47 hl (k := 2) rfl rfl (by decide) rfl (fun ls hl => ?_)
        refine lv_goto (tgt := 7) hx hb dX10_takeWord_50 (by decide) ?_
        exact ih (x1 + (1 : Int32)) (x2 + (1 : Int32)) (mI m 5 6 ((m.1 5 6) ||| q12)) H locs ls hI (lv_sub hl [2, 1, 0] rfl) hm
def fX10_takeWord (N : Nat)  (m : Mem) : Option Mem := fX10_takeWord_7 N (fX10_takeWord_53 N) N (0 : Int32) (m.1 5 3) m
set_option maxHeartbeats 4000000 in
set_option maxRecDepth 100000 in
theorem ctX10_takeWord {l : Launch} {D : va_G} {ca : Nat → ClassId} {ad : Nat → Nat} (N : Nat)   (hn : HNc ca) (m : Mem) (fin : Mem) (hm : fX10_takeWord N m = some fin) : CV l D ca ad yX10_takeWord cwX10_takeWord rmX10_takeWord [.ref (ad 5)] m fin := by
  refine start (by decide) (Nat.le_of_ble_eq_true rfl) ?_
  intro p e s mm args below meth c H locs ls X hI hr hl
  have X : CX p s mm args meth c cX10_takeWord 3 RX10 D ca ad (WA ca ad s.heap.size) := X
  have hx := X.1
  have hb := X.2.1
  have hl : lv_has ls 3 [(0, .ref (ad 5))] := hl
  have hm : (fX10_takeWord_7 N (fX10_takeWord_53 N) N (0 : Int32) (m.1 5 3) m) = some fin := hm
  refine lv_iconst (v := (0 : Int32)) hx hb dX10_takeWord_0 (by decide) ?_
  refine lv_istore_n (lv' := [(1, .int (0 : Int32)), (0, .ref (ad 5))]) hx hb dX10_takeWord_1 rfl hl (by decide) rfl (fun ls hl => ?_)
  refine lv_aload_n hx hb dX10_takeWord_2 rfl (lv_at hl 1 rfl) ?_
  refine gI X hI fdX10_37 (la_5 hn) dX10_takeWord_3 ?_
  refine lv_istore_n (lv' := [(2, .int (m.1 5 3)), (1, .int (0 : Int32)), (0, .ref (ad 5))]) hx hb dX10_takeWord_6 rfl hl (by decide) rfl (fun ls hl => ?_)
  exact tX10_takeWord_7 N hn X hr fin (tX10_takeWord_53 N hn X hr fin ) N (0 : Int32) (m.1 5 3) m H locs ls hI (lv_sub hl [2, 1, 0] rfl) hm
abbrev rmX10_isDigit : Room := { frames := 0, cells := 0, slots := 0, locals := 0 }
def fX10_isDigit  (x0 : Int32) (m : Mem) : Option Int32 := if x0 < (48 : Int32) then (some (0 : Int32)) else (if (57 : Int32) < x0 then (some (0 : Int32)) else (some (1 : Int32)))
set_option maxHeartbeats 4000000 in
set_option maxRecDepth 100000 in
theorem ctX10_isDigit {l : Launch} {D : va_G} {ca : Nat → ClassId} {ad : Nat → Nat}  (x0 : Int32)  (hn : HNc ca) (m : Mem) (fin : Int32) (hm : fX10_isDigit x0 m = some fin) : CI l D ca ad yX10_isDigit cwX10_isDigit rmX10_isDigit [.int x0] m fin m := by
  refine start (by decide) (Nat.le_of_ble_eq_true rfl) ?_
  intro p e s mm args below meth c H locs ls X hI hr hl
  have X : CX p s mm args meth c cX10_isDigit 1 RX10 D ca ad (WA ca ad s.heap.size) := X
  have hx := X.1
  have hb := X.2.1
  have hl : lv_has ls 1 [(0, .int x0)] := hl
  have hm : (if x0 < (48 : Int32) then (some (0 : Int32)) else (if (57 : Int32) < x0 then (some (0 : Int32)) else (some (1 : Int32)))) = some fin := hm
  have hpm : m = m := rfl
  refine lv_iload_n hx hb dX10_isDigit_0 rfl (lv_at hl 0 rfl) ?_
  refine lv_bipush (v := (48 : Int32)) hx hb dX10_isDigit_1 (by decide) ?_
  refine lv_icmp_lt (tgt := 16) hx hb dX10_isDigit_3 (by decide) (fun c1 => ?_) (fun c1 => ?_)
  · have hm := g_t c1 hm
    refine lv_iconst (v := (0 : Int32)) hx hb dX10_isDigit_16 (by decide) ?_
    exact rZ X hI hr (by decide) (g_1 hm) hpm dX10_isDigit_17
  · have hm := g_f c1 hm
    refine lv_iload_n hx hb dX10_isDigit_6 rfl (lv_at hl 0 rfl) ?_
    refine lv_bipush (v := (57 : Int32)) hx hb dX10_isDigit_7 (by decide) ?_
    refine lv_icmp_gt (tgt := 16) hx hb dX10_isDigit_9 (by decide) (fun c2 => ?_) (fun c2 => ?_)
    · have hm := g_t c2 hm
      refine lv_iconst (v := (0 : Int32)) hx hb dX10_isDigit_16 (by decide) ?_
      exact rZ X hI hr (by decide) (g_1 hm) hpm dX10_isDigit_17
    · have hm := g_f c2 hm
      refine lv_iconst (v := (1 : Int32)) hx hb dX10_isDigit_12 (by decide) ?_
      refine lv_goto (tgt := 17) hx hb dX10_isDigit_13 (by decide) ?_
      exact rZ X hI hr (by decide) (g_1 hm) hpm dX10_isDigit_17
abbrev rmX10_takeNumber : Room := { frames := 1, cells := 0, slots := 0, locals := 24 }
def fX10_takeNumber_60 (N : Nat) (x1 : Int32) (m : Mem) : Option Mem := some (mI (mI m 5 3 ((m.1 5 3) + x1)) 5 4 (21 : Int32))
set_option maxHeartbeats 4000000 in
set_option maxRecDepth 100000 in
theorem tX10_takeNumber_60 (N : Nat) {l : Launch} {D : va_G} {ca : Nat → ClassId} {ad : Nat → Nat} {p : Program} {e : Env} {s : State} {mm : MethodId} {args : Array Value} {below : List Frame} {meth : Method} {c : Code}  (hn : HNc ca) (X : CX p s mm args meth c cX10_takeNumber 3 RX10 D ca ad (WA ca ad s.heap.size)) (hr : meth.sig.returnType = none) (fin : Mem)  : ∀ (x1 : Int32) (m : Mem) (H : Heap) (locs : List Loc) (ls : Array Slot), IW D ca ad (WA ca ad s.heap.size) s m H locs → lv_has ls 3 [(0, .ref (ad 5)), (1, .int x1)] → fX10_takeNumber_60 N x1 m = some fin → W p l e rmX10_takeNumber s mm args below meth c H locs 0 0 (MQ below (QV D ca ad s.heap.size fin) args s 0 0 (WA ca ad s.heap.size)) (F0 mm 60 ls []) := by
  have hx := X.1
  have hb := X.2.1
  intro x1 m H locs ls hI hl hm
  have hm : (some (mI (mI m 5 3 ((m.1 5 3) + x1)) 5 4 (21 : Int32))) = some fin := hm
  refine lv_aload_n hx hb dX10_takeNumber_60 rfl (lv_at hl 0 rfl) ?_
  refine lv_dup hx hb dX10_takeNumber_61 rfl ?_
  refine gI X hI fdX10_37 (la_5 hn) dX10_takeNumber_62 ?_
  refine lv_iload_n hx hb dX10_takeNumber_65 rfl (lv_at hl 1 rfl) ?_
  refine lv_iadd hx hb dX10_takeNumber_66 ?_
  refine pI X hI fpX10_37 (la_5 hn) dX10_takeNumber_67 (fun H locs hI => ?_)
  refine lv_aload_n hx hb dX10_takeNumber_70 rfl (lv_at hl 0 rfl) ?_
  refine lv_bipush (v := (21 : Int32)) hx hb dX10_takeNumber_71 (by decide) ?_
  refine pI X hI fpX10_57 (la_5 hn) dX10_takeNumber_73 (fun H locs hI => ?_)
  exact rV X hI hr (g_1 hm) dX10_takeNumber_76
def fX10_takeNumber_7 (N : Nat) (k60 : Int32 → Mem → Option Mem) : Nat → Int32 → Int32 → Mem → Option Mem
  | 0, _, _, _ => none
  | n + 1, x1, x2, m => if (m.1 5 2) ≤ x2 then (k60 x1 m) else ((fX10_byteAt x2 m).bind (fun q2 => (fX10_isDigit q2 m).bind (fun q4 => if q4 = 0 then (k60 x1 m) else ((fX10_byteAt x2 m).bind (fun q7 => fX10_takeNumber_7 N k60 n (x1 + (1 : Int32)) (x2 + (1 : Int32)) (mI m 5 6 (imin ((((10 : Int32) * (m.1 5 6)) + q7) - (48 : Int32)) (1000000 : Int32))))))))
set_option maxHeartbeats 4000000 in
set_option maxRecDepth 100000 in
theorem tX10_takeNumber_7 (N : Nat) {l : Launch} {D : va_G} {ca : Nat → ClassId} {ad : Nat → Nat} {p : Program} {e : Env} {s : State} {mm : MethodId} {args : Array Value} {below : List Frame} {meth : Method} {c : Code} {k60 : Int32 → Mem → Option Mem} (hn : HNc ca) (X : CX p s mm args meth c cX10_takeNumber 3 RX10 D ca ad (WA ca ad s.heap.size)) (hr : meth.sig.returnType = none) (fin : Mem) (hk60 : ∀ (x1 : Int32) (m : Mem) (H : Heap) (locs : List Loc) (ls : Array Slot), IW D ca ad (WA ca ad s.heap.size) s m H locs → lv_has ls 3 [(0, .ref (ad 5)), (1, .int x1)] → k60 x1 m = some fin → W p l e rmX10_takeNumber s mm args below meth c H locs 0 0 (MQ below (QV D ca ad s.heap.size fin) args s 0 0 (WA ca ad s.heap.size)) (F0 mm 60 ls [])) : ∀ (n : Nat) (x1 : Int32) (x2 : Int32) (m : Mem) (H : Heap) (locs : List Loc) (ls : Array Slot), IW D ca ad (WA ca ad s.heap.size) s m H locs → lv_has ls 3 [(0, .ref (ad 5)), (1, .int x1), (2, .int x2)] → fX10_takeNumber_7 N k60 n x1 x2 m = some fin → W p l e rmX10_takeNumber s mm args below meth c H locs 0 0 (MQ below (QV D ca ad s.heap.size fin) args s 0 0 (WA ca ad s.heap.size)) (F0 mm 7 ls []) := by
  have hx := X.1
  have hb := X.2.1
  intro n
  induction n with
  | zero => intro x1 x2 m H locs ls hI hl hm
            exact absurd hm (by intro q; cases q)
  | succ n ih =>
    intro x1 x2 m H locs ls hI hl hm
    have hm : (if (m.1 5 2) ≤ x2 then (k60 x1 m) else ((fX10_byteAt x2 m).bind (fun q2 => (fX10_isDigit q2 m).bind (fun q4 => if q4 = 0 then (k60 x1 m) else ((fX10_byteAt x2 m).bind (fun q7 => fX10_takeNumber_7 N k60 n (x1 + (1 : Int32)) (x2 + (1 : Int32)) (mI m 5 6 (imin ((((10 : Int32) * (m.1 5 6)) + q7) - (48 : Int32)) (1000000 : Int32))))))))) = some fin := hm
    refine lv_iload_n hx hb dX10_takeNumber_7 rfl (lv_at hl 2 rfl) ?_
    refine lv_aload_n hx hb dX10_takeNumber_8 rfl (lv_at hl 0 rfl) ?_
    refine gI X hI fdX10_33 (la_5 hn) dX10_takeNumber_9 ?_
    refine lv_icmp_ge (tgt := 60) hx hb dX10_takeNumber_12 (by decide) (fun c1 => ?_) (fun c1 => ?_)
    · have hm := g_t c1 hm
      exact hk60 x1 m H locs ls hI (lv_sub hl [0, 1] rfl) hm
    · have hm := g_f c1 hm
      refine lv_aload_n hx hb dX10_takeNumber_15 rfl (lv_at hl 0 rfl) ?_
      refine lv_iload_n hx hb dX10_takeNumber_16 rfl (lv_at hl 2 rfl) ?_
      obtain ⟨q2, h3, hm⟩ := g_b hm
      refine backI X hI (runV X hI (ctX10_byteAt x2  hn _ _ h3 _) mdX10_43 (la_5 hn) rfl ⟨rfl, rfl⟩ ⟨Nat.le_of_ble_eq_true rfl, Nat.le_of_ble_eq_true rfl⟩ rfl hl.1 rfl (Nat.le_of_ble_eq_true rfl) dX10_takeNumber_17) (fun H locs hI => ?_)
      obtain ⟨q4, h5, hm⟩ := g_b hm
      refine backI X hI (runS X hI (ctX10_isDigit q2  hn _ _ h5 _) msX10_66 ⟨rfl, rfl⟩ ⟨Nat.le_of_ble_eq_true rfl, Nat.le_of_ble_eq_true rfl⟩ rfl hl.1 rfl (Nat.le_of_ble_eq_true rfl) dX10_takeNumber_20) (fun H locs hI => ?_)
      refine lv_if_eq (tgt := 60) hx hb dX10_takeNumber_23 (by decide) (fun c6 => ?_) (fun c6 => ?_)
      · have hm := g_t c6 hm
        exact hk60 x1 m H locs ls hI (lv_sub hl [0, 1] rfl) hm
      · have hm := g_f c6 hm
        refine lv_aload_n hx hb dX10_takeNumber_26 rfl (lv_at hl 0 rfl) ?_
        refine lv_bipush (v := (10 : Int32)) hx hb dX10_takeNumber_27 (by decide) ?_
        refine lv_aload_n hx hb dX10_takeNumber_29 rfl (lv_at hl 0 rfl) ?_
        refine gI X hI fdX10_54 (la_5 hn) dX10_takeNumber_30 ?_
        refine lv_imul hx hb dX10_takeNumber_33 ?_
        refine lv_aload_n hx hb dX10_takeNumber_34 rfl (lv_at hl 0 rfl) ?_
        refine lv_iload_n hx hb dX10_takeNumber_35 rfl (lv_at hl 2 rfl) ?_
        obtain ⟨q7, h8, hm⟩ := g_b hm
        refine backI X hI (runV X hI (ctX10_byteAt x2  hn _ _ h8 _) mdX10_43 (la_5 hn) rfl ⟨rfl, rfl⟩ ⟨Nat.le_of_ble_eq_true rfl, Nat.le_of_ble_eq_true rfl⟩ rfl hl.1 rfl (Nat.le_of_ble_eq_true rfl) dX10_takeNumber_36) (fun H locs hI => ?_)
        refine lv_iadd hx hb dX10_takeNumber_39 ?_
        refine lv_bipush (v := (48 : Int32)) hx hb dX10_takeNumber_40 (by decide) ?_
        refine lv_isub hx hb dX10_takeNumber_42 ?_
        refine lv_ldc hx hb X.2.2.2.1 (X.2.2.2.2.1 _ kcX10_78) dX10_takeNumber_43 ?_
        refine kMin X mpX10_79 hl.1 (Nat.le_of_ble_eq_true rfl) (Nat.le_of_ble_eq_true rfl) dX10_takeNumber_45 ?_
        refine pI X hI fpX10_54 (la_5 hn) dX10_takeNumber_48 (fun H locs hI => ?_)
        refine lv_iinc (v := (x1 + (1 : Int32))) (lv' := [(1, .int (x1 + (1 : Int32))), (0, .ref (ad 5)), (2, .int x2)]) hx hb dX10_takeNumber_51 hl (k := 1) rfl rfl (by decide) rfl (fun ls hl => ?_)
        refine lv_iinc (v := (x2 + (1 : Int32))) (lv' := [(2, .int (x2 + (1 : Int32))), (1, .int (x1 + (1 : Int32))), (0, .ref (ad 5))]) hx hb dX10_takeNumber_54 hl (k := 2) rfl rfl (by decide) rfl (fun ls hl => ?_)
        refine lv_goto (tgt := 7) hx hb dX10_takeNumber_57 (by decide) ?_
        exact ih (x1 + (1 : Int32)) (x2 + (1 : Int32)) (mI m 5 6 (imin ((((10 : Int32) * (m.1 5 6)) + q7) - (48 : Int32)) (1000000 : Int32))) H locs ls hI (lv_sub hl [2, 1, 0] rfl) hm
def fX10_takeNumber (N : Nat)  (m : Mem) : Option Mem := fX10_takeNumber_7 N (fX10_takeNumber_60 N) N (0 : Int32) (m.1 5 3) m
set_option maxHeartbeats 4000000 in
set_option maxRecDepth 100000 in
theorem ctX10_takeNumber {l : Launch} {D : va_G} {ca : Nat → ClassId} {ad : Nat → Nat} (N : Nat)   (hn : HNc ca) (m : Mem) (fin : Mem) (hm : fX10_takeNumber N m = some fin) : CV l D ca ad yX10_takeNumber cwX10_takeNumber rmX10_takeNumber [.ref (ad 5)] m fin := by
  refine start (by decide) (Nat.le_of_ble_eq_true rfl) ?_
  intro p e s mm args below meth c H locs ls X hI hr hl
  have X : CX p s mm args meth c cX10_takeNumber 3 RX10 D ca ad (WA ca ad s.heap.size) := X
  have hx := X.1
  have hb := X.2.1
  have hl : lv_has ls 3 [(0, .ref (ad 5))] := hl
  have hm : (fX10_takeNumber_7 N (fX10_takeNumber_60 N) N (0 : Int32) (m.1 5 3) m) = some fin := hm
  refine lv_iconst (v := (0 : Int32)) hx hb dX10_takeNumber_0 (by decide) ?_
  refine lv_istore_n (lv' := [(1, .int (0 : Int32)), (0, .ref (ad 5))]) hx hb dX10_takeNumber_1 rfl hl (by decide) rfl (fun ls hl => ?_)
  refine lv_aload_n hx hb dX10_takeNumber_2 rfl (lv_at hl 1 rfl) ?_
  refine gI X hI fdX10_37 (la_5 hn) dX10_takeNumber_3 ?_
  refine lv_istore_n (lv' := [(2, .int (m.1 5 3)), (1, .int (0 : Int32)), (0, .ref (ad 5))]) hx hb dX10_takeNumber_6 rfl hl (by decide) rfl (fun ls hl => ?_)
  exact tX10_takeNumber_7 N hn X hr fin (tX10_takeNumber_60 N hn X hr fin ) N (0 : Int32) (m.1 5 3) m H locs ls hI (lv_sub hl [2, 1, 0] rfl) hm
abbrev rmX10_signOf : Room := { frames := 0, cells := 0, slots := 0, locals := 0 }
def fX10_signOf  (x0 : Int32) (x1 : Int32) (m : Mem) : Option Int32 := if x0 = (40 : Int32) then (some (23 : Int32)) else (if x0 = (41 : Int32) then (some (24 : Int32)) else (if x0 = (42 : Int32) then (some (33 : Int32)) else (if x0 = (43 : Int32) then (some (31 : Int32)) else (if x0 = (44 : Int32) then (some (-2 : Int32)) else (if x0 = (45 : Int32) then (some (32 : Int32)) else (if x0 = (46 : Int32) then (some (-2 : Int32)) else (if x0 = (47 : Int32) then (some (34 : Int32)) else (if x0 = (48 : Int32) then (some (-2 : Int32)) else (if x0 = (49 : Int32) then (some (-2 : Int32)) else (if x0 = (50 : Int32) then (some (-2 : Int32)) else (if x0 = (51 : Int32) then (some (-2 : Int32)) else (if x0 = (52 : Int32) then (some (-2 : Int32)) else (if x0 = (53 : Int32) then (some (-2 : Int32)) else (if x0 = (54 : Int32) then (some (-2 : Int32)) else (if x0 = (55 : Int32) then (some (-2 : Int32)) else (if x0 = (56 : Int32) then (some (-2 : Int32)) else (if x0 = (57 : Int32) then (some (-2 : Int32)) else (if x0 = (58 : Int32) then (some (-2 : Int32)) else (if x0 = (59 : Int32) then (some (22 : Int32)) else (if x0 = (60 : Int32) then (if x1 = (61 : Int32) then (some (26 : Int32)) else (if x1 = (62 : Int32) then (some (28 : Int32)) else (some (25 : Int32)))) else (if x0 = (61 : Int32) then (some (27 : Int32)) else (if x0 = (62 : Int32) then (if x1 = (61 : Int32) then (some (29 : Int32)) else (some (30 : Int32))) else (some (-2 : Int32))))))))))))))))))))))))
set_option maxHeartbeats 4000000 in
set_option maxRecDepth 100000 in
theorem ctX10_signOf {l : Launch} {D : va_G} {ca : Nat → ClassId} {ad : Nat → Nat}  (x0 : Int32) (x1 : Int32)  (hn : HNc ca) (m : Mem) (fin : Int32) (hm : fX10_signOf x0 x1 m = some fin) : CI l D ca ad yX10_signOf cwX10_signOf rmX10_signOf [.int x0, .int x1] m fin m := by
  refine start (by decide) (Nat.le_of_ble_eq_true rfl) ?_
  intro p e s mm args below meth c H locs ls X hI hr hl
  have X : CX p s mm args meth c cX10_signOf 2 RX10 D ca ad (WA ca ad s.heap.size) := X
  have hx := X.1
  have hb := X.2.1
  have hl : lv_has ls 2 [(0, .int x0), (1, .int x1)] := hl
  have hm : (if x0 = (40 : Int32) then (some (23 : Int32)) else (if x0 = (41 : Int32) then (some (24 : Int32)) else (if x0 = (42 : Int32) then (some (33 : Int32)) else (if x0 = (43 : Int32) then (some (31 : Int32)) else (if x0 = (44 : Int32) then (some (-2 : Int32)) else (if x0 = (45 : Int32) then (some (32 : Int32)) else (if x0 = (46 : Int32) then (some (-2 : Int32)) else (if x0 = (47 : Int32) then (some (34 : Int32)) else (if x0 = (48 : Int32) then (some (-2 : Int32)) else (if x0 = (49 : Int32) then (some (-2 : Int32)) else (if x0 = (50 : Int32) then (some (-2 : Int32)) else (if x0 = (51 : Int32) then (some (-2 : Int32)) else (if x0 = (52 : Int32) then (some (-2 : Int32)) else (if x0 = (53 : Int32) then (some (-2 : Int32)) else (if x0 = (54 : Int32) then (some (-2 : Int32)) else (if x0 = (55 : Int32) then (some (-2 : Int32)) else (if x0 = (56 : Int32) then (some (-2 : Int32)) else (if x0 = (57 : Int32) then (some (-2 : Int32)) else (if x0 = (58 : Int32) then (some (-2 : Int32)) else (if x0 = (59 : Int32) then (some (22 : Int32)) else (if x0 = (60 : Int32) then (if x1 = (61 : Int32) then (some (26 : Int32)) else (if x1 = (62 : Int32) then (some (28 : Int32)) else (some (25 : Int32)))) else (if x0 = (61 : Int32) then (some (27 : Int32)) else (if x0 = (62 : Int32) then (if x1 = (61 : Int32) then (some (29 : Int32)) else (some (30 : Int32))) else (some (-2 : Int32))))))))))))))))))))))))) = some fin := hm
  have hpm : m = m := rfl
  refine lv_iload_n hx hb dX10_signOf_0 rfl (lv_at hl 0 rfl) ?_
  by_cases c1 : x0 = (40 : Int32)
  · have hm := g_t c1 hm
    refine lv_tableIn (tgt := 111) hx hb dX10_signOf_1 (by rw [c1]; decide) (by rw [c1]; decide) (off := 110) (by rw [c1]; decide) (by decide) ?_
    refine lv_bipush (v := (23 : Int32)) hx hb dX10_signOf_111 (by decide) ?_
    exact rI X hI hr (g_1 hm) hpm dX10_signOf_113
  · have hm := g_f c1 hm
    by_cases c2 : x0 = (41 : Int32)
    · have hm := g_t c2 hm
      refine lv_tableIn (tgt := 114) hx hb dX10_signOf_1 (by rw [c2]; decide) (by rw [c2]; decide) (off := 113) (by rw [c2]; decide) (by decide) ?_
      refine lv_bipush (v := (24 : Int32)) hx hb dX10_signOf_114 (by decide) ?_
      exact rI X hI hr (g_1 hm) hpm dX10_signOf_116
    · have hm := g_f c2 hm
      by_cases c3 : x0 = (42 : Int32)
      · have hm := g_t c3 hm
        refine lv_tableIn (tgt := 123) hx hb dX10_signOf_1 (by rw [c3]; decide) (by rw [c3]; decide) (off := 122) (by rw [c3]; decide) (by decide) ?_
        refine lv_bipush (v := (33 : Int32)) hx hb dX10_signOf_123 (by decide) ?_
        exact rI X hI hr (g_1 hm) hpm dX10_signOf_125
      · have hm := g_f c3 hm
        by_cases c4 : x0 = (43 : Int32)
        · have hm := g_t c4 hm
          refine lv_tableIn (tgt := 117) hx hb dX10_signOf_1 (by rw [c4]; decide) (by rw [c4]; decide) (off := 116) (by rw [c4]; decide) (by decide) ?_
          refine lv_bipush (v := (31 : Int32)) hx hb dX10_signOf_117 (by decide) ?_
          exact rI X hI hr (g_1 hm) hpm dX10_signOf_119
        · have hm := g_f c4 hm
          by_cases c5 : x0 = (44 : Int32)
          · have hm := g_t c5 hm
            refine lv_tableIn (tgt := 171) hx hb dX10_signOf_1 (by rw [c5]; decide) (by rw [c5]; decide) (off := 170) (by rw [c5]; decide) (by decide) ?_
            refine lv_bipush (v := (-2 : Int32)) hx hb dX10_signOf_171 (by decide) ?_
            exact rI X hI hr (g_1 hm) hpm dX10_signOf_173
          · have hm := g_f c5 hm
            by_cases c6 : x0 = (45 : Int32)
            · have hm := g_t c6 hm
              refine lv_tableIn (tgt := 120) hx hb dX10_signOf_1 (by rw [c6]; decide) (by rw [c6]; decide) (off := 119) (by rw [c6]; decide) (by decide) ?_
              refine lv_bipush (v := (32 : Int32)) hx hb dX10_signOf_120 (by decide) ?_
              exact rI X hI hr (g_1 hm) hpm dX10_signOf_122
            · have hm := g_f c6 hm
              by_cases c7 : x0 = (46 : Int32)
              · have hm := g_t c7 hm
                refine lv_tableIn (tgt := 171) hx hb dX10_signOf_1 (by rw [c7]; decide) (by rw [c7]; decide) (off := 170) (by rw [c7]; decide) (by decide) ?_
                refine lv_bipush (v := (-2 : Int32)) hx hb dX10_signOf_171 (by decide) ?_
                exact rI X hI hr (g_1 hm) hpm dX10_signOf_173
              · have hm := g_f c7 hm
                by_cases c8 : x0 = (47 : Int32)
                · have hm := g_t c8 hm
                  refine lv_tableIn (tgt := 126) hx hb dX10_signOf_1 (by rw [c8]; decide) (by rw [c8]; decide) (off := 125) (by rw [c8]; decide) (by decide) ?_
                  refine lv_bipush (v := (34 : Int32)) hx hb dX10_signOf_126 (by decide) ?_
                  exact rI X hI hr (g_1 hm) hpm dX10_signOf_128
                · have hm := g_f c8 hm
                  by_cases c9 : x0 = (48 : Int32)
                  · have hm := g_t c9 hm
                    refine lv_tableIn (tgt := 171) hx hb dX10_signOf_1 (by rw [c9]; decide) (by rw [c9]; decide) (off := 170) (by rw [c9]; decide) (by decide) ?_
                    refine lv_bipush (v := (-2 : Int32)) hx hb dX10_signOf_171 (by decide) ?_
                    exact rI X hI hr (g_1 hm) hpm dX10_signOf_173
                  · have hm := g_f c9 hm
                    by_cases c10 : x0 = (49 : Int32)
                    · have hm := g_t c10 hm
                      refine lv_tableIn (tgt := 171) hx hb dX10_signOf_1 (by rw [c10]; decide) (by rw [c10]; decide) (off := 170) (by rw [c10]; decide) (by decide) ?_
                      refine lv_bipush (v := (-2 : Int32)) hx hb dX10_signOf_171 (by decide) ?_
                      exact rI X hI hr (g_1 hm) hpm dX10_signOf_173
                    · have hm := g_f c10 hm
                      by_cases c11 : x0 = (50 : Int32)
                      · have hm := g_t c11 hm
                        refine lv_tableIn (tgt := 171) hx hb dX10_signOf_1 (by rw [c11]; decide) (by rw [c11]; decide) (off := 170) (by rw [c11]; decide) (by decide) ?_
                        refine lv_bipush (v := (-2 : Int32)) hx hb dX10_signOf_171 (by decide) ?_
                        exact rI X hI hr (g_1 hm) hpm dX10_signOf_173
                      · have hm := g_f c11 hm
                        by_cases c12 : x0 = (51 : Int32)
                        · have hm := g_t c12 hm
                          refine lv_tableIn (tgt := 171) hx hb dX10_signOf_1 (by rw [c12]; decide) (by rw [c12]; decide) (off := 170) (by rw [c12]; decide) (by decide) ?_
                          refine lv_bipush (v := (-2 : Int32)) hx hb dX10_signOf_171 (by decide) ?_
                          exact rI X hI hr (g_1 hm) hpm dX10_signOf_173
                        · have hm := g_f c12 hm
                          by_cases c13 : x0 = (52 : Int32)
                          · have hm := g_t c13 hm
                            refine lv_tableIn (tgt := 171) hx hb dX10_signOf_1 (by rw [c13]; decide) (by rw [c13]; decide) (off := 170) (by rw [c13]; decide) (by decide) ?_
                            refine lv_bipush (v := (-2 : Int32)) hx hb dX10_signOf_171 (by decide) ?_
                            exact rI X hI hr (g_1 hm) hpm dX10_signOf_173
                          · have hm := g_f c13 hm
                            by_cases c14 : x0 = (53 : Int32)
                            · have hm := g_t c14 hm
                              refine lv_tableIn (tgt := 171) hx hb dX10_signOf_1 (by rw [c14]; decide) (by rw [c14]; decide) (off := 170) (by rw [c14]; decide) (by decide) ?_
                              refine lv_bipush (v := (-2 : Int32)) hx hb dX10_signOf_171 (by decide) ?_
                              exact rI X hI hr (g_1 hm) hpm dX10_signOf_173
                            · have hm := g_f c14 hm
                              by_cases c15 : x0 = (54 : Int32)
                              · have hm := g_t c15 hm
                                refine lv_tableIn (tgt := 171) hx hb dX10_signOf_1 (by rw [c15]; decide) (by rw [c15]; decide) (off := 170) (by rw [c15]; decide) (by decide) ?_
                                refine lv_bipush (v := (-2 : Int32)) hx hb dX10_signOf_171 (by decide) ?_
                                exact rI X hI hr (g_1 hm) hpm dX10_signOf_173
                              · have hm := g_f c15 hm
                                by_cases c16 : x0 = (55 : Int32)
                                · have hm := g_t c16 hm
                                  refine lv_tableIn (tgt := 171) hx hb dX10_signOf_1 (by rw [c16]; decide) (by rw [c16]; decide) (off := 170) (by rw [c16]; decide) (by decide) ?_
                                  refine lv_bipush (v := (-2 : Int32)) hx hb dX10_signOf_171 (by decide) ?_
                                  exact rI X hI hr (g_1 hm) hpm dX10_signOf_173
                                · have hm := g_f c16 hm
                                  by_cases c17 : x0 = (56 : Int32)
                                  · have hm := g_t c17 hm
                                    refine lv_tableIn (tgt := 171) hx hb dX10_signOf_1 (by rw [c17]; decide) (by rw [c17]; decide) (off := 170) (by rw [c17]; decide) (by decide) ?_
                                    refine lv_bipush (v := (-2 : Int32)) hx hb dX10_signOf_171 (by decide) ?_
                                    exact rI X hI hr (g_1 hm) hpm dX10_signOf_173
                                  · have hm := g_f c17 hm
                                    by_cases c18 : x0 = (57 : Int32)
                                    · have hm := g_t c18 hm
                                      refine lv_tableIn (tgt := 171) hx hb dX10_signOf_1 (by rw [c18]; decide) (by rw [c18]; decide) (off := 170) (by rw [c18]; decide) (by decide) ?_
                                      refine lv_bipush (v := (-2 : Int32)) hx hb dX10_signOf_171 (by decide) ?_
                                      exact rI X hI hr (g_1 hm) hpm dX10_signOf_173
                                    · have hm := g_f c18 hm
                                      by_cases c19 : x0 = (58 : Int32)
                                      · have hm := g_t c19 hm
                                        refine lv_tableIn (tgt := 171) hx hb dX10_signOf_1 (by rw [c19]; decide) (by rw [c19]; decide) (off := 170) (by rw [c19]; decide) (by decide) ?_
                                        refine lv_bipush (v := (-2 : Int32)) hx hb dX10_signOf_171 (by decide) ?_
                                        exact rI X hI hr (g_1 hm) hpm dX10_signOf_173
                                      · have hm := g_f c19 hm
                                        by_cases c20 : x0 = (59 : Int32)
                                        · have hm := g_t c20 hm
                                          refine lv_tableIn (tgt := 108) hx hb dX10_signOf_1 (by rw [c20]; decide) (by rw [c20]; decide) (off := 107) (by rw [c20]; decide) (by decide) ?_
                                          refine lv_bipush (v := (22 : Int32)) hx hb dX10_signOf_108 (by decide) ?_
                                          exact rI X hI hr (g_1 hm) hpm dX10_signOf_110
                                        · have hm := g_f c20 hm
                                          by_cases c21 : x0 = (60 : Int32)
                                          · have hm := g_t c21 hm
                                            refine lv_tableIn (tgt := 132) hx hb dX10_signOf_1 (by rw [c21]; decide) (by rw [c21]; decide) (off := 131) (by rw [c21]; decide) (by decide) ?_
                                            refine lv_iload_n hx hb dX10_signOf_132 rfl (lv_at hl 1 rfl) ?_
                                            refine lv_bipush (v := (61 : Int32)) hx hb dX10_signOf_133 (by decide) ?_
                                            refine lv_icmp_ne (tgt := 143) hx hb dX10_signOf_135 (by decide) (fun c22 => ?_) (fun c22 => ?_)
                                            · have hm := g_f c22 hm
                                              refine lv_iload_n hx hb dX10_signOf_143 rfl (lv_at hl 1 rfl) ?_
                                              refine lv_bipush (v := (62 : Int32)) hx hb dX10_signOf_144 (by decide) ?_
                                              refine lv_icmp_ne (tgt := 154) hx hb dX10_signOf_146 (by decide) (fun c23 => ?_) (fun c23 => ?_)
                                              · have hm := g_f c23 hm
                                                refine lv_bipush (v := (25 : Int32)) hx hb dX10_signOf_154 (by decide) ?_
                                                exact rI X hI hr (g_1 hm) hpm dX10_signOf_156
                                              · have hm := g_t c23 hm
                                                refine lv_bipush (v := (28 : Int32)) hx hb dX10_signOf_149 (by decide) ?_
                                                refine lv_goto (tgt := 156) hx hb dX10_signOf_151 (by decide) ?_
                                                exact rI X hI hr (g_1 hm) hpm dX10_signOf_156
                                            · have hm := g_t c22 hm
                                              refine lv_bipush (v := (26 : Int32)) hx hb dX10_signOf_138 (by decide) ?_
                                              refine lv_goto (tgt := 156) hx hb dX10_signOf_140 (by decide) ?_
                                              exact rI X hI hr (g_1 hm) hpm dX10_signOf_156
                                          · have hm := g_f c21 hm
                                            by_cases c24 : x0 = (61 : Int32)
                                            · have hm := g_t c24 hm
                                              refine lv_tableIn (tgt := 129) hx hb dX10_signOf_1 (by rw [c24]; decide) (by rw [c24]; decide) (off := 128) (by rw [c24]; decide) (by decide) ?_
                                              refine lv_bipush (v := (27 : Int32)) hx hb dX10_signOf_129 (by decide) ?_
                                              exact rI X hI hr (g_1 hm) hpm dX10_signOf_131
                                            · have hm := g_f c24 hm
                                              by_cases c25 : x0 = (62 : Int32)
                                              · have hm := g_t c25 hm
                                                refine lv_tableIn (tgt := 157) hx hb dX10_signOf_1 (by rw [c25]; decide) (by rw [c25]; decide) (off := 156) (by rw [c25]; decide) (by decide) ?_
                                                refine lv_iload_n hx hb dX10_signOf_157 rfl (lv_at hl 1 rfl) ?_
                                                refine lv_bipush (v := (61 : Int32)) hx hb dX10_signOf_158 (by decide) ?_
                                                refine lv_icmp_ne (tgt := 168) hx hb dX10_signOf_160 (by decide) (fun c26 => ?_) (fun c26 => ?_)
                                                · have hm := g_f c26 hm
                                                  refine lv_bipush (v := (30 : Int32)) hx hb dX10_signOf_168 (by decide) ?_
                                                  exact rI X hI hr (g_1 hm) hpm dX10_signOf_170
                                                · have hm := g_t c26 hm
                                                  refine lv_bipush (v := (29 : Int32)) hx hb dX10_signOf_163 (by decide) ?_
                                                  refine lv_goto (tgt := 170) hx hb dX10_signOf_165 (by decide) ?_
                                                  exact rI X hI hr (g_1 hm) hpm dX10_signOf_170
                                              · have hm := g_f c25 hm
                                                have ec1 := lv_neT c1 (a := 40) (by decide)
                                                have ec2 := lv_neT c2 (a := 41) (by decide)
                                                have ec3 := lv_neT c3 (a := 42) (by decide)
                                                have ec4 := lv_neT c4 (a := 43) (by decide)
                                                have ec5 := lv_neT c5 (a := 44) (by decide)
                                                have ec6 := lv_neT c6 (a := 45) (by decide)
                                                have ec7 := lv_neT c7 (a := 46) (by decide)
                                                have ec8 := lv_neT c8 (a := 47) (by decide)
                                                have ec9 := lv_neT c9 (a := 48) (by decide)
                                                have ec10 := lv_neT c10 (a := 49) (by decide)
                                                have ec11 := lv_neT c11 (a := 50) (by decide)
                                                have ec12 := lv_neT c12 (a := 51) (by decide)
                                                have ec13 := lv_neT c13 (a := 52) (by decide)
                                                have ec14 := lv_neT c14 (a := 53) (by decide)
                                                have ec15 := lv_neT c15 (a := 54) (by decide)
                                                have ec16 := lv_neT c16 (a := 55) (by decide)
                                                have ec17 := lv_neT c17 (a := 56) (by decide)
                                                have ec18 := lv_neT c18 (a := 57) (by decide)
                                                have ec19 := lv_neT c19 (a := 58) (by decide)
                                                have ec20 := lv_neT c20 (a := 59) (by decide)
                                                have ec21 := lv_neT c21 (a := 60) (by decide)
                                                have ec24 := lv_neT c24 (a := 61) (by decide)
                                                have ec25 := lv_neT c25 (a := 62) (by decide)
                                                refine lv_tableOut (tgt := 171) hx hb dX10_signOf_1 (by omega) (by decide) ?_
                                                refine lv_bipush (v := (-2 : Int32)) hx hb dX10_signOf_171 (by decide) ?_
                                                exact rI X hI hr (g_1 hm) hpm dX10_signOf_173
abbrev rmX10_advance : Room := { frames := 2, cells := 0, slots := 0, locals := 46 }
def fX10_advance_152 (N : Nat)  (m : Mem) : Option Mem := some (mI m 5 3 ((m.1 5 3) + (1 : Int32)))
set_option maxHeartbeats 4000000 in
set_option maxRecDepth 100000 in
theorem tX10_advance_152 (N : Nat) {l : Launch} {D : va_G} {ca : Nat → ClassId} {ad : Nat → Nat} {p : Program} {e : Env} {s : State} {mm : MethodId} {args : Array Value} {below : List Frame} {meth : Method} {c : Code}  (hn : HNc ca) (X : CX p s mm args meth c cX10_advance 2 RX10 D ca ad (WA ca ad s.heap.size)) (hr : meth.sig.returnType = none) (fin : Mem)  : ∀  (m : Mem) (H : Heap) (locs : List Loc) (ls : Array Slot), IW D ca ad (WA ca ad s.heap.size) s m H locs → lv_has ls 2 [(0, .ref (ad 5))] → fX10_advance_152 N m = some fin → W p l e rmX10_advance s mm args below meth c H locs 0 0 (MQ below (QV D ca ad s.heap.size fin) args s 0 0 (WA ca ad s.heap.size)) (F0 mm 152 ls []) := by
  have hx := X.1
  have hb := X.2.1
  intro m H locs ls hI hl hm
  have hm : (some (mI m 5 3 ((m.1 5 3) + (1 : Int32)))) = some fin := hm
  refine lv_aload_n hx hb dX10_advance_152 rfl (lv_at hl 0 rfl) ?_
  refine lv_dup hx hb dX10_advance_153 rfl ?_
  refine gI X hI fdX10_37 (la_5 hn) dX10_advance_154 ?_
  refine lv_iconst (v := (1 : Int32)) hx hb dX10_advance_157 (by decide) ?_
  refine lv_iadd hx hb dX10_advance_158 ?_
  refine pI X hI fpX10_37 (la_5 hn) dX10_advance_159 (fun H locs hI => ?_)
  exact rV X hI hr (g_1 hm) dX10_advance_162
def fX10_advance_37 (N : Nat)  (m : Mem) : Option Mem := (fX10_byteAt ((mI (mI m 5 5 (m.1 5 3)) 5 6 (0 : Int32)).1 5 3) (mI (mI m 5 5 (m.1 5 3)) 5 6 (0 : Int32))).bind (fun q1 => if 0 ≤ q1 then ((fX10_isLetter q1 (mI (mI m 5 5 (m.1 5 3)) 5 6 (0 : Int32))).bind (fun q4 => if q4 = 0 then ((fX10_isDigit q1 (mI (mI m 5 5 (m.1 5 3)) 5 6 (0 : Int32))).bind (fun q7 => if q7 = 0 then ((fX10_byteAt ((mI (mI (mI m 5 5 (m.1 5 3)) 5 6 (0 : Int32)) 5 3 (((mI (mI m 5 5 (m.1 5 3)) 5 6 (0 : Int32)).1 5 3) + (1 : Int32))).1 5 3) (mI (mI (mI m 5 5 (m.1 5 3)) 5 6 (0 : Int32)) 5 3 (((mI (mI m 5 5 (m.1 5 3)) 5 6 (0 : Int32)).1 5 3) + (1 : Int32)))).bind (fun q10 => (fX10_signOf q1 q10 (mI (mI (mI m 5 5 (m.1 5 3)) 5 6 (0 : Int32)) 5 3 (((mI (mI m 5 5 (m.1 5 3)) 5 6 (0 : Int32)).1 5 3) + (1 : Int32)))).bind (fun q12 => if ((mI (mI (mI (mI m 5 5 (m.1 5 3)) 5 6 (0 : Int32)) 5 3 (((mI (mI m 5 5 (m.1 5 3)) 5 6 (0 : Int32)).1 5 3) + (1 : Int32))) 5 4 q12).1 5 4) = (26 : Int32) then (fX10_advance_152 N (mI (mI (mI (mI m 5 5 (m.1 5 3)) 5 6 (0 : Int32)) 5 3 (((mI (mI m 5 5 (m.1 5 3)) 5 6 (0 : Int32)).1 5 3) + (1 : Int32))) 5 4 q12)) else (if ((mI (mI (mI (mI m 5 5 (m.1 5 3)) 5 6 (0 : Int32)) 5 3 (((mI (mI m 5 5 (m.1 5 3)) 5 6 (0 : Int32)).1 5 3) + (1 : Int32))) 5 4 q12).1 5 4) = (28 : Int32) then (fX10_advance_152 N (mI (mI (mI (mI m 5 5 (m.1 5 3)) 5 6 (0 : Int32)) 5 3 (((mI (mI m 5 5 (m.1 5 3)) 5 6 (0 : Int32)).1 5 3) + (1 : Int32))) 5 4 q12)) else (if ((mI (mI (mI (mI m 5 5 (m.1 5 3)) 5 6 (0 : Int32)) 5 3 (((mI (mI m 5 5 (m.1 5 3)) 5 6 (0 : Int32)).1 5 3) + (1 : Int32))) 5 4 q12).1 5 4) = (29 : Int32) then (fX10_advance_152 N (mI (mI (mI (mI m 5 5 (m.1 5 3)) 5 6 (0 : Int32)) 5 3 (((mI (mI m 5 5 (m.1 5 3)) 5 6 (0 : Int32)).1 5 3) + (1 : Int32))) 5 4 q12)) else (some (mI (mI (mI (mI m 5 5 (m.1 5 3)) 5 6 (0 : Int32)) 5 3 (((mI (mI m 5 5 (m.1 5 3)) 5 6 (0 : Int32)).1 5 3) + (1 : Int32))) 5 4 q12))))))) else ((fX10_takeNumber N (mI (mI m 5 5 (m.1 5 3)) 5 6 (0 : Int32))).bind (fun q17 => some q17)))) else ((fX10_takeWord N (mI (mI m 5 5 (m.1 5 3)) 5 6 (0 : Int32))).bind (fun q19 => some q19)))) else (some (mI (mI (mI m 5 5 (m.1 5 3)) 5 6 (0 : Int32)) 5 4 (-1 : Int32))))
set_option maxHeartbeats 4000000 in
set_option maxRecDepth 100000 in
theorem tX10_advance_37 (N : Nat) {l : Launch} {D : va_G} {ca : Nat → ClassId} {ad : Nat → Nat} {p : Program} {e : Env} {s : State} {mm : MethodId} {args : Array Value} {below : List Frame} {meth : Method} {c : Code}  (hn : HNc ca) (X : CX p s mm args meth c cX10_advance 2 RX10 D ca ad (WA ca ad s.heap.size)) (hr : meth.sig.returnType = none) (fin : Mem)  : ∀  (m : Mem) (H : Heap) (locs : List Loc) (ls : Array Slot), IW D ca ad (WA ca ad s.heap.size) s m H locs → lv_has ls 2 [(0, .ref (ad 5))] → fX10_advance_37 N m = some fin → W p l e rmX10_advance s mm args below meth c H locs 0 0 (MQ below (QV D ca ad s.heap.size fin) args s 0 0 (WA ca ad s.heap.size)) (F0 mm 37 ls []) := by
  have hx := X.1
  have hb := X.2.1
  intro m H locs ls hI hl hm
  have hm : ((fX10_byteAt ((mI (mI m 5 5 (m.1 5 3)) 5 6 (0 : Int32)).1 5 3) (mI (mI m 5 5 (m.1 5 3)) 5 6 (0 : Int32))).bind (fun q1 => if 0 ≤ q1 then ((fX10_isLetter q1 (mI (mI m 5 5 (m.1 5 3)) 5 6 (0 : Int32))).bind (fun q4 => if q4 = 0 then ((fX10_isDigit q1 (mI (mI m 5 5 (m.1 5 3)) 5 6 (0 : Int32))).bind (fun q7 => if q7 = 0 then ((fX10_byteAt ((mI (mI (mI m 5 5 (m.1 5 3)) 5 6 (0 : Int32)) 5 3 (((mI (mI m 5 5 (m.1 5 3)) 5 6 (0 : Int32)).1 5 3) + (1 : Int32))).1 5 3) (mI (mI (mI m 5 5 (m.1 5 3)) 5 6 (0 : Int32)) 5 3 (((mI (mI m 5 5 (m.1 5 3)) 5 6 (0 : Int32)).1 5 3) + (1 : Int32)))).bind (fun q10 => (fX10_signOf q1 q10 (mI (mI (mI m 5 5 (m.1 5 3)) 5 6 (0 : Int32)) 5 3 (((mI (mI m 5 5 (m.1 5 3)) 5 6 (0 : Int32)).1 5 3) + (1 : Int32)))).bind (fun q12 => if ((mI (mI (mI (mI m 5 5 (m.1 5 3)) 5 6 (0 : Int32)) 5 3 (((mI (mI m 5 5 (m.1 5 3)) 5 6 (0 : Int32)).1 5 3) + (1 : Int32))) 5 4 q12).1 5 4) = (26 : Int32) then (fX10_advance_152 N (mI (mI (mI (mI m 5 5 (m.1 5 3)) 5 6 (0 : Int32)) 5 3 (((mI (mI m 5 5 (m.1 5 3)) 5 6 (0 : Int32)).1 5 3) + (1 : Int32))) 5 4 q12)) else (if ((mI (mI (mI (mI m 5 5 (m.1 5 3)) 5 6 (0 : Int32)) 5 3 (((mI (mI m 5 5 (m.1 5 3)) 5 6 (0 : Int32)).1 5 3) + (1 : Int32))) 5 4 q12).1 5 4) = (28 : Int32) then (fX10_advance_152 N (mI (mI (mI (mI m 5 5 (m.1 5 3)) 5 6 (0 : Int32)) 5 3 (((mI (mI m 5 5 (m.1 5 3)) 5 6 (0 : Int32)).1 5 3) + (1 : Int32))) 5 4 q12)) else (if ((mI (mI (mI (mI m 5 5 (m.1 5 3)) 5 6 (0 : Int32)) 5 3 (((mI (mI m 5 5 (m.1 5 3)) 5 6 (0 : Int32)).1 5 3) + (1 : Int32))) 5 4 q12).1 5 4) = (29 : Int32) then (fX10_advance_152 N (mI (mI (mI (mI m 5 5 (m.1 5 3)) 5 6 (0 : Int32)) 5 3 (((mI (mI m 5 5 (m.1 5 3)) 5 6 (0 : Int32)).1 5 3) + (1 : Int32))) 5 4 q12)) else (some (mI (mI (mI (mI m 5 5 (m.1 5 3)) 5 6 (0 : Int32)) 5 3 (((mI (mI m 5 5 (m.1 5 3)) 5 6 (0 : Int32)).1 5 3) + (1 : Int32))) 5 4 q12))))))) else ((fX10_takeNumber N (mI (mI m 5 5 (m.1 5 3)) 5 6 (0 : Int32))).bind (fun q17 => some q17)))) else ((fX10_takeWord N (mI (mI m 5 5 (m.1 5 3)) 5 6 (0 : Int32))).bind (fun q19 => some q19)))) else (some (mI (mI (mI m 5 5 (m.1 5 3)) 5 6 (0 : Int32)) 5 4 (-1 : Int32))))) = some fin := hm
  refine lv_aload_n hx hb dX10_advance_37 rfl (lv_at hl 0 rfl) ?_
  refine lv_aload_n hx hb dX10_advance_38 rfl (lv_at hl 0 rfl) ?_
  refine gI X hI fdX10_37 (la_5 hn) dX10_advance_39 ?_
  refine pI X hI fpX10_51 (la_5 hn) dX10_advance_42 (fun H locs hI => ?_)
  refine lv_aload_n hx hb dX10_advance_45 rfl (lv_at hl 0 rfl) ?_
  refine lv_iconst (v := (0 : Int32)) hx hb dX10_advance_46 (by decide) ?_
  refine pI X hI fpX10_54 (la_5 hn) dX10_advance_47 (fun H locs hI => ?_)
  refine lv_aload_n hx hb dX10_advance_50 rfl (lv_at hl 0 rfl) ?_
  refine lv_aload_n hx hb dX10_advance_51 rfl (lv_at hl 0 rfl) ?_
  refine gI X hI fdX10_37 (la_5 hn) dX10_advance_52 ?_
  obtain ⟨q1, h2, hm⟩ := g_b hm
  refine backI X hI (runV X hI (ctX10_byteAt ((mI (mI m 5 5 (m.1 5 3)) 5 6 (0 : Int32)).1 5 3)  hn _ _ h2 _) mdX10_43 (la_5 hn) rfl ⟨rfl, rfl⟩ ⟨Nat.le_of_ble_eq_true rfl, Nat.le_of_ble_eq_true rfl⟩ rfl hl.1 rfl (Nat.le_of_ble_eq_true rfl) dX10_advance_55) (fun H locs hI => ?_)
  refine lv_istore_n (lv' := [(1, .int q1), (0, .ref (ad 5))]) hx hb dX10_advance_58 rfl hl (by decide) rfl (fun ls hl => ?_)
  refine lv_iload_n hx hb dX10_advance_59 rfl (lv_at hl 0 rfl) ?_
  refine lv_if_ge (tgt := 71) hx hb dX10_advance_60 (by decide) (fun c3 => ?_) (fun c3 => ?_)
  · have hm := g_t c3 hm
    refine lv_iload_n hx hb dX10_advance_71 rfl (lv_at hl 0 rfl) ?_
    obtain ⟨q4, h5, hm⟩ := g_b hm
    refine backI X hI (runS X hI (ctX10_isLetter q1  hn _ _ h5 _) msX10_60 ⟨rfl, rfl⟩ ⟨Nat.le_of_ble_eq_true rfl, Nat.le_of_ble_eq_true rfl⟩ rfl hl.1 rfl (Nat.le_of_ble_eq_true rfl) dX10_advance_72) (fun H locs hI => ?_)
    refine lv_if_eq (tgt := 85) hx hb dX10_advance_75 (by decide) (fun c6 => ?_) (fun c6 => ?_)
    · have hm := g_t c6 hm
      refine lv_iload_n hx hb dX10_advance_85 rfl (lv_at hl 0 rfl) ?_
      obtain ⟨q7, h8, hm⟩ := g_b hm
      refine backI X hI (runS X hI (ctX10_isDigit q1  hn _ _ h8 _) msX10_66 ⟨rfl, rfl⟩ ⟨Nat.le_of_ble_eq_true rfl, Nat.le_of_ble_eq_true rfl⟩ rfl hl.1 rfl (Nat.le_of_ble_eq_true rfl) dX10_advance_86) (fun H locs hI => ?_)
      refine lv_if_eq (tgt := 99) hx hb dX10_advance_89 (by decide) (fun c9 => ?_) (fun c9 => ?_)
      · have hm := g_t c9 hm
        refine lv_aload_n hx hb dX10_advance_99 rfl (lv_at hl 1 rfl) ?_
        refine lv_dup hx hb dX10_advance_100 rfl ?_
        refine gI X hI fdX10_37 (la_5 hn) dX10_advance_101 ?_
        refine lv_iconst (v := (1 : Int32)) hx hb dX10_advance_104 (by decide) ?_
        refine lv_iadd hx hb dX10_advance_105 ?_
        refine pI X hI fpX10_37 (la_5 hn) dX10_advance_106 (fun H locs hI => ?_)
        refine lv_aload_n hx hb dX10_advance_109 rfl (lv_at hl 1 rfl) ?_
        refine lv_iload_n hx hb dX10_advance_110 rfl (lv_at hl 0 rfl) ?_
        refine lv_aload_n hx hb dX10_advance_111 rfl (lv_at hl 1 rfl) ?_
        refine lv_aload_n hx hb dX10_advance_112 rfl (lv_at hl 1 rfl) ?_
        refine gI X hI fdX10_37 (la_5 hn) dX10_advance_113 ?_
        obtain ⟨q10, h11, hm⟩ := g_b hm
        refine backI X hI (runV X hI (ctX10_byteAt ((mI (mI (mI m 5 5 (m.1 5 3)) 5 6 (0 : Int32)) 5 3 (((mI (mI m 5 5 (m.1 5 3)) 5 6 (0 : Int32)).1 5 3) + (1 : Int32))).1 5 3)  hn _ _ h11 _) mdX10_43 (la_5 hn) rfl ⟨rfl, rfl⟩ ⟨Nat.le_of_ble_eq_true rfl, Nat.le_of_ble_eq_true rfl⟩ rfl hl.1 rfl (Nat.le_of_ble_eq_true rfl) dX10_advance_116) (fun H locs hI => ?_)
        obtain ⟨q12, h13, hm⟩ := g_b hm
        refine backI X hI (runS X hI (ctX10_signOf q1 q10  hn _ _ h13 _) msX10_72 ⟨rfl, rfl⟩ ⟨Nat.le_of_ble_eq_true rfl, Nat.le_of_ble_eq_true rfl⟩ rfl hl.1 rfl (Nat.le_of_ble_eq_true rfl) dX10_advance_119) (fun H locs hI => ?_)
        refine pI X hI fpX10_57 (la_5 hn) dX10_advance_122 (fun H locs hI => ?_)
        refine lv_aload_n hx hb dX10_advance_125 rfl (lv_at hl 1 rfl) ?_
        refine gI X hI fdX10_57 (la_5 hn) dX10_advance_126 ?_
        refine lv_bipush (v := (26 : Int32)) hx hb dX10_advance_129 (by decide) ?_
        refine lv_icmp_eq (tgt := 152) hx hb dX10_advance_131 (by decide) (fun c14 => ?_) (fun c14 => ?_)
        · have hm := g_t c14 hm
          exact tX10_advance_152 N hn X hr fin  (mI (mI (mI (mI m 5 5 (m.1 5 3)) 5 6 (0 : Int32)) 5 3 (((mI (mI m 5 5 (m.1 5 3)) 5 6 (0 : Int32)).1 5 3) + (1 : Int32))) 5 4 q12) H locs ls hI (lv_sub hl [1] rfl) hm
        · have hm := g_f c14 hm
          refine lv_aload_n hx hb dX10_advance_134 rfl (lv_at hl 1 rfl) ?_
          refine gI X hI fdX10_57 (la_5 hn) dX10_advance_135 ?_
          refine lv_bipush (v := (28 : Int32)) hx hb dX10_advance_138 (by decide) ?_
          refine lv_icmp_eq (tgt := 152) hx hb dX10_advance_140 (by decide) (fun c15 => ?_) (fun c15 => ?_)
          · have hm := g_t c15 hm
            exact tX10_advance_152 N hn X hr fin  (mI (mI (mI (mI m 5 5 (m.1 5 3)) 5 6 (0 : Int32)) 5 3 (((mI (mI m 5 5 (m.1 5 3)) 5 6 (0 : Int32)).1 5 3) + (1 : Int32))) 5 4 q12) H locs ls hI (lv_sub hl [1] rfl) hm
          · have hm := g_f c15 hm
            refine lv_aload_n hx hb dX10_advance_143 rfl (lv_at hl 1 rfl) ?_
            refine gI X hI fdX10_57 (la_5 hn) dX10_advance_144 ?_
            refine lv_bipush (v := (29 : Int32)) hx hb dX10_advance_147 (by decide) ?_
            refine lv_icmp_ne (tgt := 162) hx hb dX10_advance_149 (by decide) (fun c16 => ?_) (fun c16 => ?_)
            · have hm := g_f c16 hm
              exact rV X hI hr (g_1 hm) dX10_advance_162
            · have hm := g_t c16 hm
              exact tX10_advance_152 N hn X hr fin  (mI (mI (mI (mI m 5 5 (m.1 5 3)) 5 6 (0 : Int32)) 5 3 (((mI (mI m 5 5 (m.1 5 3)) 5 6 (0 : Int32)).1 5 3) + (1 : Int32))) 5 4 q12) H locs ls hI (lv_sub hl [1] rfl) hm
      · have hm := g_f c9 hm
        refine lv_aload_n hx hb dX10_advance_92 rfl (lv_at hl 1 rfl) ?_
        obtain ⟨q17, h18, hm⟩ := g_b hm
        refine backV X hI (runV X hI (ctX10_takeNumber N  hn _ _ h18 _) mdX10_69 (la_5 hn) rfl ⟨rfl, rfl⟩ ⟨Nat.le_of_ble_eq_true rfl, Nat.le_of_ble_eq_true rfl⟩ rfl hl.1 rfl (Nat.le_of_ble_eq_true rfl) dX10_advance_93) (fun H locs hI => ?_)
        refine lv_goto (tgt := 162) hx hb dX10_advance_96 (by decide) ?_
        exact rV X hI hr (g_1 hm) dX10_advance_162
    · have hm := g_f c6 hm
      refine lv_aload_n hx hb dX10_advance_78 rfl (lv_at hl 1 rfl) ?_
      obtain ⟨q19, h20, hm⟩ := g_b hm
      refine backV X hI (runV X hI (ctX10_takeWord N  hn _ _ h20 _) mdX10_63 (la_5 hn) rfl ⟨rfl, rfl⟩ ⟨Nat.le_of_ble_eq_true rfl, Nat.le_of_ble_eq_true rfl⟩ rfl hl.1 rfl (Nat.le_of_ble_eq_true rfl) dX10_advance_79) (fun H locs hI => ?_)
      refine lv_goto (tgt := 162) hx hb dX10_advance_82 (by decide) ?_
      exact rV X hI hr (g_1 hm) dX10_advance_162
  · have hm := g_f c3 hm
    refine lv_aload_n hx hb dX10_advance_63 rfl (lv_at hl 1 rfl) ?_
    refine lv_iconst (v := (-1 : Int32)) hx hb dX10_advance_64 (by decide) ?_
    refine pI X hI fpX10_57 (la_5 hn) dX10_advance_65 (fun H locs hI => ?_)
    refine lv_goto (tgt := 162) hx hb dX10_advance_68 (by decide) ?_
    exact rV X hI hr (g_1 hm) dX10_advance_162
def fX10_advance_5 (N : Nat) (k37 : Mem → Option Mem) : Nat → Int32 → Mem → Option Mem
  | 0, _, _ => none
  | n + 1, x1, m => if (m.1 5 2) ≤ x1 then (k37 m) else ((fX10_byteAt x1 m).bind (fun q22 => (fX10_isBlank q22 m).bind (fun q24 => if q24 = 0 then (k37 m) else (fX10_advance_5 N k37 n (x1 + (1 : Int32)) (mI m 5 3 (x1 + (1 : Int32)))))))
set_option maxHeartbeats 4000000 in
set_option maxRecDepth 100000 in
theorem tX10_advance_5 (N : Nat) {l : Launch} {D : va_G} {ca : Nat → ClassId} {ad : Nat → Nat} {p : Program} {e : Env} {s : State} {mm : MethodId} {args : Array Value} {below : List Frame} {meth : Method} {c : Code} {k37 : Mem → Option Mem} (hn : HNc ca) (X : CX p s mm args meth c cX10_advance 2 RX10 D ca ad (WA ca ad s.heap.size)) (hr : meth.sig.returnType = none) (fin : Mem) (hk37 : ∀  (m : Mem) (H : Heap) (locs : List Loc) (ls : Array Slot), IW D ca ad (WA ca ad s.heap.size) s m H locs → lv_has ls 2 [(0, .ref (ad 5))] → k37 m = some fin → W p l e rmX10_advance s mm args below meth c H locs 0 0 (MQ below (QV D ca ad s.heap.size fin) args s 0 0 (WA ca ad s.heap.size)) (F0 mm 37 ls [])) : ∀ (n : Nat) (x1 : Int32) (m : Mem) (H : Heap) (locs : List Loc) (ls : Array Slot), IW D ca ad (WA ca ad s.heap.size) s m H locs → lv_has ls 2 [(0, .ref (ad 5)), (1, .int x1)] → fX10_advance_5 N k37 n x1 m = some fin → W p l e rmX10_advance s mm args below meth c H locs 0 0 (MQ below (QV D ca ad s.heap.size fin) args s 0 0 (WA ca ad s.heap.size)) (F0 mm 5 ls []) := by
  have hx := X.1
  have hb := X.2.1
  intro n
  induction n with
  | zero => intro x1 m H locs ls hI hl hm
            exact absurd hm (by intro q; cases q)
  | succ n ih =>
    intro x1 m H locs ls hI hl hm
    have hm : (if (m.1 5 2) ≤ x1 then (k37 m) else ((fX10_byteAt x1 m).bind (fun q22 => (fX10_isBlank q22 m).bind (fun q24 => if q24 = 0 then (k37 m) else (fX10_advance_5 N k37 n (x1 + (1 : Int32)) (mI m 5 3 (x1 + (1 : Int32)))))))) = some fin := hm
    refine lv_iload_n hx hb dX10_advance_5 rfl (lv_at hl 1 rfl) ?_
    refine lv_aload_n hx hb dX10_advance_6 rfl (lv_at hl 0 rfl) ?_
    refine gI X hI fdX10_33 (la_5 hn) dX10_advance_7 ?_
    refine lv_icmp_ge (tgt := 37) hx hb dX10_advance_10 (by decide) (fun c21 => ?_) (fun c21 => ?_)
    · have hm := g_t c21 hm
      exact hk37 m H locs ls hI (lv_sub hl [0] rfl) hm
    · have hm := g_f c21 hm
      refine lv_aload_n hx hb dX10_advance_13 rfl (lv_at hl 0 rfl) ?_
      refine lv_iload_n hx hb dX10_advance_14 rfl (lv_at hl 1 rfl) ?_
      obtain ⟨q22, h23, hm⟩ := g_b hm
      refine backI X hI (runV X hI (ctX10_byteAt x1  hn _ _ h23 _) mdX10_43 (la_5 hn) rfl ⟨rfl, rfl⟩ ⟨Nat.le_of_ble_eq_true rfl, Nat.le_of_ble_eq_true rfl⟩ rfl hl.1 rfl (Nat.le_of_ble_eq_true rfl) dX10_advance_15) (fun H locs hI => ?_)
      obtain ⟨q24, h25, hm⟩ := g_b hm
      refine backI X hI (runS X hI (ctX10_isBlank q22  hn _ _ h25 _) msX10_47 ⟨rfl, rfl⟩ ⟨Nat.le_of_ble_eq_true rfl, Nat.le_of_ble_eq_true rfl⟩ rfl hl.1 rfl (Nat.le_of_ble_eq_true rfl) dX10_advance_18) (fun H locs hI => ?_)
      refine lv_if_eq (tgt := 37) hx hb dX10_advance_21 (by decide) (fun c26 => ?_) (fun c26 => ?_)
      · have hm := g_t c26 hm
        exact hk37 m H locs ls hI (lv_sub hl [0] rfl) hm
      · have hm := g_f c26 hm
        refine lv_aload_n hx hb dX10_advance_24 rfl (lv_at hl 0 rfl) ?_
        refine lv_iload_n hx hb dX10_advance_25 rfl (lv_at hl 1 rfl) ?_
        refine lv_iconst (v := (1 : Int32)) hx hb dX10_advance_26 (by decide) ?_
        refine lv_iadd hx hb dX10_advance_27 ?_
        refine pI X hI fpX10_37 (la_5 hn) dX10_advance_28 (fun H locs hI => ?_)
        refine lv_iinc (v := (x1 + (1 : Int32))) (lv' := [(1, .int (x1 + (1 : Int32))), (0, .ref (ad 5))]) hx hb dX10_advance_31 hl (k := 1) rfl rfl (by decide) rfl (fun ls hl => ?_)
        refine lv_goto (tgt := 5) hx hb dX10_advance_34 (by decide) ?_
        exact ih (x1 + (1 : Int32)) (mI m 5 3 (x1 + (1 : Int32))) H locs ls hI (lv_sub hl [1, 0] rfl) hm
def fX10_advance (N : Nat)  (m : Mem) : Option Mem := fX10_advance_5 N (fX10_advance_37 N) N (m.1 5 3) m
set_option maxHeartbeats 4000000 in
set_option maxRecDepth 100000 in
theorem ctX10_advance {l : Launch} {D : va_G} {ca : Nat → ClassId} {ad : Nat → Nat} (N : Nat)   (hn : HNc ca) (m : Mem) (fin : Mem) (hm : fX10_advance N m = some fin) : CV l D ca ad yX10_advance cwX10_advance rmX10_advance [.ref (ad 5)] m fin := by
  refine start (by decide) (Nat.le_of_ble_eq_true rfl) ?_
  intro p e s mm args below meth c H locs ls X hI hr hl
  have X : CX p s mm args meth c cX10_advance 2 RX10 D ca ad (WA ca ad s.heap.size) := X
  have hx := X.1
  have hb := X.2.1
  have hl : lv_has ls 2 [(0, .ref (ad 5))] := hl
  have hm : (fX10_advance_5 N (fX10_advance_37 N) N (m.1 5 3) m) = some fin := hm
  refine lv_aload_n hx hb dX10_advance_0 rfl (lv_at hl 0 rfl) ?_
  refine gI X hI fdX10_37 (la_5 hn) dX10_advance_1 ?_
  refine lv_istore_n (lv' := [(1, .int (m.1 5 3)), (0, .ref (ad 5))]) hx hb dX10_advance_4 rfl hl (by decide) rfl (fun ls hl => ?_)
  exact tX10_advance_5 N hn X hr fin (tX10_advance_37 N hn X hr fin ) N (m.1 5 3) m H locs ls hI (lv_sub hl [1, 0] rfl) hm
abbrev rmX10_start : Room := { frames := 3, cells := 0, slots := 0, locals := 67 }
def fX10_start (N : Nat) (x1 : Int32) (m : Mem) : Option Mem := (fX10_advance N (mI (mI m 5 2 x1) 5 3 (0 : Int32))).bind (fun q1 => some q1)
set_option maxHeartbeats 4000000 in
set_option maxRecDepth 100000 in
theorem ctX10_start {l : Launch} {D : va_G} {ca : Nat → ClassId} {ad : Nat → Nat} (N : Nat) (x1 : Int32)  (hn : HNc ca) (m : Mem) (fin : Mem) (hm : fX10_start N x1 m = some fin) : CV l D ca ad yX10_start cwX10_start rmX10_start [.ref (ad 5), .int x1] m fin := by
  refine start (by decide) (Nat.le_of_ble_eq_true rfl) ?_
  intro p e s mm args below meth c H locs ls X hI hr hl
  have X : CX p s mm args meth c cX10_start 2 RX10 D ca ad (WA ca ad s.heap.size) := X
  have hx := X.1
  have hb := X.2.1
  have hl : lv_has ls 2 [(0, .ref (ad 5)), (1, .int x1)] := hl
  have hm : ((fX10_advance N (mI (mI m 5 2 x1) 5 3 (0 : Int32))).bind (fun q1 => some q1)) = some fin := hm
  refine lv_aload_n hx hb dX10_start_0 rfl (lv_at hl 0 rfl) ?_
  refine lv_iload_n hx hb dX10_start_1 rfl (lv_at hl 1 rfl) ?_
  refine pI X hI fpX10_33 (la_5 hn) dX10_start_2 (fun H locs hI => ?_)
  refine lv_aload_n hx hb dX10_start_5 rfl (lv_at hl 0 rfl) ?_
  refine lv_iconst (v := (0 : Int32)) hx hb dX10_start_6 (by decide) ?_
  refine pI X hI fpX10_37 (la_5 hn) dX10_start_7 (fun H locs hI => ?_)
  refine lv_aload_n hx hb dX10_start_10 rfl (lv_at hl 0 rfl) ?_
  obtain ⟨q1, h2, hm⟩ := g_b hm
  refine backV X hI (runV X hI (ctX10_advance N  hn _ _ h2 _) mdX10_40 (la_5 hn) rfl ⟨rfl, rfl⟩ ⟨Nat.le_of_ble_eq_true rfl, Nat.le_of_ble_eq_true rfl⟩ rfl hl.1 rfl (Nat.le_of_ble_eq_true rfl) dX10_start_11) (fun H locs hI => ?_)
  exact rV X hI hr (g_1 hm) dX10_start_14
abbrev rmX9_isFull : Room := { frames := 0, cells := 0, slots := 0, locals := 0 }
def fX9_isFull  (x0 : Nat) (m : Mem) : Option Int32 := if (m.1 x0 2) < (m.1 x0 0) then (some (0 : Int32)) else (some (1 : Int32))
set_option maxHeartbeats 4000000 in
set_option maxRecDepth 100000 in
theorem ctX9_isFull {l : Launch} {D : va_G} {ca : Nat → ClassId} {ad : Nat → Nat}  (x0 : Nat) (hx0 : ly ca x0 = (0, 9)) (hn : HNc ca) (m : Mem) (fin : Int32) (hm : fX9_isFull x0 m = some fin) : CI l D ca ad yX9_isFull cwX9_isFull rmX9_isFull [.ref (ad x0)] m fin m := by
  refine start (by decide) (Nat.le_of_ble_eq_true rfl) ?_
  intro p e s mm args below meth c H locs ls X hI hr hl
  have X : CX p s mm args meth c cX9_isFull 1 RX9 D ca ad (WA ca ad s.heap.size) := X
  have hx := X.1
  have hb := X.2.1
  have hl : lv_has ls 1 [(0, .ref (ad x0))] := hl
  have hm : (if (m.1 x0 2) < (m.1 x0 0) then (some (0 : Int32)) else (some (1 : Int32))) = some fin := hm
  have hpm : m = m := rfl
  refine lv_aload_n hx hb dX9_isFull_0 rfl (lv_at hl 0 rfl) ?_
  refine gI X hI fdX9_19 hx0 dX9_isFull_1 ?_
  refine lv_aload_n hx hb dX9_isFull_4 rfl (lv_at hl 0 rfl) ?_
  refine gI X hI fdX9_9 hx0 dX9_isFull_5 ?_
  refine lv_icmp_lt (tgt := 15) hx hb dX9_isFull_8 (by decide) (fun c1 => ?_) (fun c1 => ?_)
  · have hm := g_t c1 hm
    refine lv_iconst (v := (0 : Int32)) hx hb dX9_isFull_15 (by decide) ?_
    exact rZ X hI hr (by decide) (g_1 hm) hpm dX9_isFull_16
  · have hm := g_f c1 hm
    refine lv_iconst (v := (1 : Int32)) hx hb dX9_isFull_11 (by decide) ?_
    refine lv_goto (tgt := 16) hx hb dX9_isFull_12 (by decide) ?_
    exact rZ X hI hr (by decide) (g_1 hm) hpm dX9_isFull_16
abbrev rmX8_fail : Room := { frames := 0, cells := 0, slots := 0, locals := 0 }
def fX8_fail  (x1 : Int32) (m : Mem) : Option (Int32 × Mem) := some ((0 : Int32), (mI (mI m 2 7 x1) 2 8 ((mI m 2 7 x1).1 5 5)))
set_option maxHeartbeats 4000000 in
set_option maxRecDepth 100000 in
theorem ctX8_fail {l : Launch} {D : va_G} {ca : Nat → ClassId} {ad : Nat → Nat}  (x1 : Int32)  (hn : HNc ca) (m : Mem) (fin : (Int32 × Mem)) (hm : fX8_fail x1 m = some fin) : CI l D ca ad yX8_fail cwX8_fail rmX8_fail [.ref (ad 2), .int x1] m fin.1 fin.2 := by
  refine start (by decide) (Nat.le_of_ble_eq_true rfl) ?_
  intro p e s mm args below meth c H locs ls X hI hr hl
  have X : CX p s mm args meth c cX8_fail 2 RX8 D ca ad (WA ca ad s.heap.size) := X
  have hx := X.1
  have hb := X.2.1
  have hl : lv_has ls 2 [(0, .ref (ad 2)), (1, .int x1)] := hl
  have hm : (some ((0 : Int32), (mI (mI m 2 7 x1) 2 8 ((mI m 2 7 x1).1 5 5)))) = some fin := hm
  refine lv_aload_n hx hb dX8_fail_0 rfl (lv_at hl 0 rfl) ?_
  refine lv_iload_n hx hb dX8_fail_1 rfl (lv_at hl 1 rfl) ?_
  refine pI X hI fpX8_34 (la_2 hn) dX8_fail_2 (fun H locs hI => ?_)
  refine lv_aload_n hx hb dX8_fail_5 rfl (lv_at hl 0 rfl) ?_
  refine lv_aload_n hx hb dX8_fail_6 rfl (lv_at hl 0 rfl) ?_
  refine gR X hI fdX8_30 (la_2 hn) rf8_0 dX8_fail_7 ?_
  refine gI X hI fdX8_56 (la_5 hn) dX8_fail_10 ?_
  refine pI X hI fpX8_21 (la_2 hn) dX8_fail_13 (fun H locs hI => ?_)
  refine lv_iconst (v := (0 : Int32)) hx hb dX8_fail_16 (by decide) ?_
  exact rZ X hI hr (by decide) (g_p hm).1 (g_p hm).2 dX8_fail_17
abbrev rmX8_openRow : Room := { frames := 3, cells := 0, slots := 0, locals := 67 }
def fX8_openRow (N : Nat) (x1 : Nat) (m : Mem) : Option (Int32 × Mem) := (fX9_isFull x1 m).bind (fun q1 => if q1 = 0 then ((fX10_advance N m).bind (fun q4 => some ((1 : Int32), q4))) else ((fX8_fail (2 : Int32) m).bind (fun q6 => if q6.1 = 0 ∨ q6.1 = 1 then (some (q6.1, q6.2)) else none)))
set_option maxHeartbeats 4000000 in
set_option maxRecDepth 100000 in
theorem ctX8_openRow {l : Launch} {D : va_G} {ca : Nat → ClassId} {ad : Nat → Nat} (N : Nat) (x1 : Nat) (hx1 : ly ca x1 = (0, 9)) (hn : HNc ca) (m : Mem) (fin : (Int32 × Mem)) (hm : fX8_openRow N x1 m = some fin) : CI l D ca ad yX8_openRow cwX8_openRow rmX8_openRow [.ref (ad 2), .ref (ad x1)] m fin.1 fin.2 := by
  refine start (by decide) (Nat.le_of_ble_eq_true rfl) ?_
  intro p e s mm args below meth c H locs ls X hI hr hl
  have X : CX p s mm args meth c cX8_openRow 2 RX8 D ca ad (WA ca ad s.heap.size) := X
  have hx := X.1
  have hb := X.2.1
  have hl : lv_has ls 2 [(0, .ref (ad 2)), (1, .ref (ad x1))] := hl
  have hm : ((fX9_isFull x1 m).bind (fun q1 => if q1 = 0 then ((fX10_advance N m).bind (fun q4 => some ((1 : Int32), q4))) else ((fX8_fail (2 : Int32) m).bind (fun q6 => if q6.1 = 0 ∨ q6.1 = 1 then (some (q6.1, q6.2)) else none)))) = some fin := hm
  refine lv_aload_n hx hb dX8_openRow_0 rfl (lv_at hl 1 rfl) ?_
  obtain ⟨q1, h2, hm⟩ := g_b hm
  refine backI X hI (runV X hI (ctX9_isFull x1 hx1 hn _ _ h2 _) mdX8_147 hx1 rfl ⟨rfl, rfl⟩ ⟨Nat.le_of_ble_eq_true rfl, Nat.le_of_ble_eq_true rfl⟩ rfl hl.1 rfl (Nat.le_of_ble_eq_true rfl) dX8_openRow_1) (fun H locs hI => ?_)
  refine lv_if_eq (tgt := 13) hx hb dX8_openRow_4 (by decide) (fun c3 => ?_) (fun c3 => ?_)
  · have hm := g_t c3 hm
    refine lv_aload_n hx hb dX8_openRow_13 rfl (lv_at hl 0 rfl) ?_
    refine gR X hI fdX8_30 (la_2 hn) rf8_0 dX8_openRow_14 ?_
    obtain ⟨q4, h5, hm⟩ := g_b hm
    refine backV X hI (runV X hI (ctX10_advance N  hn _ _ h5 _) mdX8_110 (la_5 hn) rfl ⟨rfl, rfl⟩ ⟨Nat.le_of_ble_eq_true rfl, Nat.le_of_ble_eq_true rfl⟩ rfl hl.1 rfl (Nat.le_of_ble_eq_true rfl) dX8_openRow_17) (fun H locs hI => ?_)
    refine lv_iconst (v := (1 : Int32)) hx hb dX8_openRow_20 (by decide) ?_
    exact rZ X hI hr (by decide) (g_p hm).1 (g_p hm).2 dX8_openRow_21
  · have hm := g_f c3 hm
    refine lv_aload_n hx hb dX8_openRow_7 rfl (lv_at hl 0 rfl) ?_
    refine lv_iconst (v := (2 : Int32)) hx hb dX8_openRow_8 (by decide) ?_
    obtain ⟨q6, h7, hm⟩ := g_b hm
    refine backI X hI (runV X hI (ctX8_fail (2 : Int32)  hn _ _ h7 _) mdX8_106 (la_2 hn) rfl ⟨rfl, rfl⟩ ⟨Nat.le_of_ble_eq_true rfl, Nat.le_of_ble_eq_true rfl⟩ rfl hl.1 rfl (Nat.le_of_ble_eq_true rfl) dX8_openRow_9) (fun H locs hI => ?_)
    obtain ⟨g8, hm⟩ := g_is hm
    exact rZ X hI hr g8 (g_p hm).1 (g_p hm).2 dX8_openRow_12
abbrev rmX9_find : Room := { frames := 1, cells := 0, slots := 0, locals := 23 }
def fX9_find_2 (N : Nat) : Nat → Nat → Int32 → Int32 → Mem → Option Int32
  | 0, _, _, _, _ => none
  | n + 1, x0, x1, x2, m => if (m.1 x0 2) ≤ x2 then (some (-1 : Int32)) else ((fX9_cell x0 x2 (0 : Int32) m).bind (fun q2 => if q2 = x1 then (some x2) else (fX9_find_2 N n x0 x1 (x2 + (1 : Int32)) m)))
set_option maxHeartbeats 4000000 in
set_option maxRecDepth 100000 in
theorem tX9_find_2 (N : Nat) {l : Launch} {D : va_G} {ca : Nat → ClassId} {ad : Nat → Nat} {p : Program} {e : Env} {s : State} {mm : MethodId} {args : Array Value} {below : List Frame} {meth : Method} {c : Code}  (hn : HNc ca) (X : CX p s mm args meth c cX9_find 3 RX9 D ca ad (WA ca ad s.heap.size)) (hr : meth.sig.returnType = (some .int)) (fin : Int32) (m0 : Mem)  : ∀ (n : Nat) (x0 : Nat) (x1 : Int32) (x2 : Int32) (m : Mem) (H : Heap) (locs : List Loc) (ls : Array Slot), ly ca x0 = (0, 9) → IW D ca ad (WA ca ad s.heap.size) s m H locs → lv_has ls 3 [(0, .ref (ad x0)), (1, .int x1), (2, .int x2)] → fX9_find_2 N n x0 x1 x2 m = some fin → m = m0 → W p l e rmX9_find s mm args below meth c H locs 0 0 (MQ below (QI D ca ad s.heap.size fin m0) args s 0 0 (WA ca ad s.heap.size)) (F0 mm 2 ls []) := by
  have hx := X.1
  have hb := X.2.1
  intro n
  induction n with
  | zero => intro x0 x1 x2 m H locs ls hx0 hI hl hm hpm
            exact absurd hm (by intro q; cases q)
  | succ n ih =>
    intro x0 x1 x2 m H locs ls hx0 hI hl hm hpm
    have hm : (if (m.1 x0 2) ≤ x2 then (some (-1 : Int32)) else ((fX9_cell x0 x2 (0 : Int32) m).bind (fun q2 => if q2 = x1 then (some x2) else (fX9_find_2 N n x0 x1 (x2 + (1 : Int32)) m)))) = some fin := hm
    refine lv_iload_n hx hb dX9_find_2 rfl (lv_at hl 2 rfl) ?_
    refine lv_aload_n hx hb dX9_find_3 rfl (lv_at hl 0 rfl) ?_
    refine gI X hI fdX9_19 hx0 dX9_find_4 ?_
    refine lv_icmp_ge (tgt := 28) hx hb dX9_find_7 (by decide) (fun c1 => ?_) (fun c1 => ?_)
    · have hm := g_t c1 hm
      refine lv_iconst (v := (-1 : Int32)) hx hb dX9_find_28 (by decide) ?_
      exact rI X hI hr (g_1 hm) hpm dX9_find_29
    · have hm := g_f c1 hm
      refine lv_aload_n hx hb dX9_find_10 rfl (lv_at hl 0 rfl) ?_
      refine lv_iload_n hx hb dX9_find_11 rfl (lv_at hl 2 rfl) ?_
      refine lv_iconst (v := (0 : Int32)) hx hb dX9_find_12 (by decide) ?_
      obtain ⟨q2, h3, hm⟩ := g_b hm
      refine backI X hI (runV X hI (ctX9_cell x0 x2 (0 : Int32) hx0 hn _ _ h3 _) mdX9_22 hx0 rfl ⟨rfl, rfl⟩ ⟨Nat.le_of_ble_eq_true rfl, Nat.le_of_ble_eq_true rfl⟩ rfl hl.1 rfl (Nat.le_of_ble_eq_true rfl) dX9_find_13) (fun H locs hI => ?_)
      refine lv_iload_n hx hb dX9_find_16 rfl (lv_at hl 1 rfl) ?_
      refine lv_icmp_ne (tgt := 22) hx hb dX9_find_17 (by decide) (fun c4 => ?_) (fun c4 => ?_)
      · have hm := g_f c4 hm
        refine lv_iinc (v := (x2 + (1 : Int32))) (lv' := [(2, .int (x2 + (1 : Int32))), (0, .ref (ad x0)), (1, .int x1)]) hx hb dX9_find_22 hl (k := 2) rfl rfl (by decide) rfl (fun ls hl => ?_)
        refine lv_goto (tgt := 2) hx hb dX9_find_25 (by decide) ?_
        exact ih x0 x1 (x2 + (1 : Int32)) m H locs ls hx0 hI (lv_sub hl [1, 2, 0] rfl) hm hpm
      · have hm := g_t c4 hm
        refine lv_iload_n hx hb dX9_find_20 rfl (lv_at hl 2 rfl) ?_
        exact rI X hI hr (g_1 hm) hpm dX9_find_21
def fX9_find (N : Nat) (x0 : Nat) (x1 : Int32) (m : Mem) : Option Int32 := fX9_find_2 N N x0 x1 (0 : Int32) m
set_option maxHeartbeats 4000000 in
set_option maxRecDepth 100000 in
theorem ctX9_find {l : Launch} {D : va_G} {ca : Nat → ClassId} {ad : Nat → Nat} (N : Nat) (x0 : Nat) (x1 : Int32) (hx0 : ly ca x0 = (0, 9)) (hn : HNc ca) (m : Mem) (fin : Int32) (hm : fX9_find N x0 x1 m = some fin) : CI l D ca ad yX9_find cwX9_find rmX9_find [.ref (ad x0), .int x1] m fin m := by
  refine start (by decide) (Nat.le_of_ble_eq_true rfl) ?_
  intro p e s mm args below meth c H locs ls X hI hr hl
  have X : CX p s mm args meth c cX9_find 3 RX9 D ca ad (WA ca ad s.heap.size) := X
  have hx := X.1
  have hb := X.2.1
  have hl : lv_has ls 3 [(0, .ref (ad x0)), (1, .int x1)] := hl
  have hm : (fX9_find_2 N N x0 x1 (0 : Int32) m) = some fin := hm
  have hpm : m = m := rfl
  refine lv_iconst (v := (0 : Int32)) hx hb dX9_find_0 (by decide) ?_
  refine lv_istore_n (lv' := [(2, .int (0 : Int32)), (0, .ref (ad x0)), (1, .int x1)]) hx hb dX9_find_1 rfl hl (by decide) rfl (fun ls hl => ?_)
  exact tX9_find_2 N hn X hr fin m  N x0 x1 (0 : Int32) m H locs ls hx0 hI (lv_sub hl [1, 2, 0] rfl) hm hpm
abbrev rmX9_set : Room := { frames := 0, cells := 0, slots := 0, locals := 0 }
def fX9_set  (x0 : Nat) (x1 : Int32) (x2 : Int32) (m : Mem) : Option Mem := if (((3 : Int32) * (m.1 x0 2)) + x1) < 0 then (some m) else (if (Int32.ofNat (lay (x0 + 1)).2) ≤ (((3 : Int32) * (m.1 x0 2)) + x1) then (some m) else (if (((3 : Int32) * (m.1 x0 2)) + x1) < 0 ∨ (lay (x0 + 1)).2 ≤ (((3 : Int32) * (m.1 x0 2)) + x1).toNatClampNeg then none else (some (mI m (x0 + 1) (((3 : Int32) * (m.1 x0 2)) + x1).toNatClampNeg x2))))
set_option maxHeartbeats 4000000 in
set_option maxRecDepth 100000 in
theorem ctX9_set {l : Launch} {D : va_G} {ca : Nat → ClassId} {ad : Nat → Nat}  (x0 : Nat) (x1 : Int32) (x2 : Int32) (hx0 : ly ca x0 = (0, 9)) (hn : HNc ca) (m : Mem) (fin : Mem) (hm : fX9_set x0 x1 x2 m = some fin) : CV l D ca ad yX9_set cwX9_set rmX9_set [.ref (ad x0), .int x1, .int x2] m fin := by
  refine start (by decide) (Nat.le_of_ble_eq_true rfl) ?_
  intro p e s mm args below meth c H locs ls X hI hr hl
  have X : CX p s mm args meth c cX9_set 4 RX9 D ca ad (WA ca ad s.heap.size) := X
  have hx := X.1
  have hb := X.2.1
  have hl : lv_has ls 4 [(0, .ref (ad x0)), (1, .int x1), (2, .int x2)] := hl
  have hm : (if (((3 : Int32) * (m.1 x0 2)) + x1) < 0 then (some m) else (if (Int32.ofNat (lay (x0 + 1)).2) ≤ (((3 : Int32) * (m.1 x0 2)) + x1) then (some m) else (if (((3 : Int32) * (m.1 x0 2)) + x1) < 0 ∨ (lay (x0 + 1)).2 ≤ (((3 : Int32) * (m.1 x0 2)) + x1).toNatClampNeg then none else (some (mI m (x0 + 1) (((3 : Int32) * (m.1 x0 2)) + x1).toNatClampNeg x2))))) = some fin := hm
  refine lv_iconst (v := (3 : Int32)) hx hb dX9_set_0 (by decide) ?_
  refine lv_aload_n hx hb dX9_set_1 rfl (lv_at hl 0 rfl) ?_
  refine gI X hI fdX9_19 hx0 dX9_set_2 ?_
  refine lv_imul hx hb dX9_set_5 ?_
  refine lv_iload_n hx hb dX9_set_6 rfl (lv_at hl 1 rfl) ?_
  refine lv_iadd hx hb dX9_set_7 ?_
  refine lv_istore_n (lv' := [(3, .int (((3 : Int32) * (m.1 x0 2)) + x1)), (0, .ref (ad x0)), (1, .int x1), (2, .int x2)]) hx hb dX9_set_8 rfl hl (by decide) rfl (fun ls hl => ?_)
  refine lv_iload_n hx hb dX9_set_9 rfl (lv_at hl 0 rfl) ?_
  refine lv_if_lt (tgt := 29) hx hb dX9_set_10 (by decide) (fun c1 => ?_) (fun c1 => ?_)
  · have hm := g_t c1 hm
    exact rV X hI hr (g_1 hm) dX9_set_29
  · have hm := g_f c1 hm
    refine lv_iload_n hx hb dX9_set_13 rfl (lv_at hl 0 rfl) ?_
    refine lv_aload_n hx hb dX9_set_14 rfl (lv_at hl 1 rfl) ?_
    refine gR X hI fdX9_15 hx0 rf9_1 dX9_set_15 ?_
    refine nA X hI (lf9_1 hn hx0) dX9_set_18 ?_
    refine lv_icmp_ge (tgt := 29) hx hb dX9_set_19 (by decide) (fun c2 => ?_) (fun c2 => ?_)
    · have hm := g_t c2 hm
      exact rV X hI hr (g_1 hm) dX9_set_29
    · have hm := g_f c2 hm
      refine lv_aload_n hx hb dX9_set_22 rfl (lv_at hl 1 rfl) ?_
      refine gR X hI fdX9_15 hx0 rf9_1 dX9_set_23 ?_
      refine lv_iload_n hx hb dX9_set_26 rfl (lv_at hl 0 rfl) ?_
      refine lv_iload_n hx hb dX9_set_27 rfl (lv_at hl 3 rfl) ?_
      obtain ⟨g3, hm⟩ := g_no hm
      refine sI X hI (lf9_1 hn hx0) g3 dX9_set_28 (fun H locs hI => ?_)
      exact rV X hI hr (g_1 hm) dX9_set_29
abbrev rmX8_readNewName : Room := { frames := 3, cells := 0, slots := 0, locals := 67 }
def fX8_readNewName (N : Nat) (x1 : Nat) (m : Mem) : Option (Int32 × Mem) := if (m.1 5 4) = (-3 : Int32) then ((fX9_find N x1 (m.1 5 6) m).bind (fun q2 => if q2 < 0 then ((fX9_set x1 (0 : Int32) (m.1 5 6) m).bind (fun q5 => (fX10_advance N q5).bind (fun q7 => some ((1 : Int32), q7)))) else ((fX8_fail (3 : Int32) m).bind (fun q9 => if q9.1 = 0 ∨ q9.1 = 1 then (some (q9.1, q9.2)) else none)))) else ((fX8_fail (1 : Int32) m).bind (fun q12 => if q12.1 = 0 ∨ q12.1 = 1 then (some (q12.1, q12.2)) else none))
set_option maxHeartbeats 4000000 in
set_option maxRecDepth 100000 in
theorem ctX8_readNewName {l : Launch} {D : va_G} {ca : Nat → ClassId} {ad : Nat → Nat} (N : Nat) (x1 : Nat) (hx1 : ly ca x1 = (0, 9)) (hn : HNc ca) (m : Mem) (fin : (Int32 × Mem)) (hm : fX8_readNewName N x1 m = some fin) : CI l D ca ad yX8_readNewName cwX8_readNewName rmX8_readNewName [.ref (ad 2), .ref (ad x1)] m fin.1 fin.2 := by
  refine start (by decide) (Nat.le_of_ble_eq_true rfl) ?_
  intro p e s mm args below meth c H locs ls X hI hr hl
  have X : CX p s mm args meth c cX8_readNewName 2 RX8 D ca ad (WA ca ad s.heap.size) := X
  have hx := X.1
  have hb := X.2.1
  have hl : lv_has ls 2 [(0, .ref (ad 2)), (1, .ref (ad x1))] := hl
  have hm : (if (m.1 5 4) = (-3 : Int32) then ((fX9_find N x1 (m.1 5 6) m).bind (fun q2 => if q2 < 0 then ((fX9_set x1 (0 : Int32) (m.1 5 6) m).bind (fun q5 => (fX10_advance N q5).bind (fun q7 => some ((1 : Int32), q7)))) else ((fX8_fail (3 : Int32) m).bind (fun q9 => if q9.1 = 0 ∨ q9.1 = 1 then (some (q9.1, q9.2)) else none)))) else ((fX8_fail (1 : Int32) m).bind (fun q12 => if q12.1 = 0 ∨ q12.1 = 1 then (some (q12.1, q12.2)) else none))) = some fin := hm
  refine lv_aload_n hx hb dX8_readNewName_0 rfl (lv_at hl 0 rfl) ?_
  refine gR X hI fdX8_30 (la_2 hn) rf8_0 dX8_readNewName_1 ?_
  refine gI X hI fdX8_46 (la_5 hn) dX8_readNewName_4 ?_
  refine lv_bipush (v := (-3 : Int32)) hx hb dX8_readNewName_7 (by decide) ?_
  refine lv_icmp_eq (tgt := 18) hx hb dX8_readNewName_9 (by decide) (fun c1 => ?_) (fun c1 => ?_)
  · have hm := g_t c1 hm
    refine lv_aload_n hx hb dX8_readNewName_18 rfl (lv_at hl 1 rfl) ?_
    refine lv_aload_n hx hb dX8_readNewName_19 rfl (lv_at hl 0 rfl) ?_
    refine gR X hI fdX8_30 (la_2 hn) rf8_0 dX8_readNewName_20 ?_
    refine gI X hI fdX8_133 (la_5 hn) dX8_readNewName_23 ?_
    obtain ⟨q2, h3, hm⟩ := g_b hm
    refine backI X hI (runV X hI (ctX9_find N x1 (m.1 5 6) hx1 hn _ _ h3 _) mdX8_136 hx1 rfl ⟨rfl, rfl⟩ ⟨Nat.le_of_ble_eq_true rfl, Nat.le_of_ble_eq_true rfl⟩ rfl hl.1 rfl (Nat.le_of_ble_eq_true rfl) dX8_readNewName_26) (fun H locs hI => ?_)
    refine lv_if_lt (tgt := 38) hx hb dX8_readNewName_29 (by decide) (fun c4 => ?_) (fun c4 => ?_)
    · have hm := g_t c4 hm
      refine lv_aload_n hx hb dX8_readNewName_38 rfl (lv_at hl 1 rfl) ?_
      refine lv_iconst (v := (0 : Int32)) hx hb dX8_readNewName_39 (by decide) ?_
      refine lv_aload_n hx hb dX8_readNewName_40 rfl (lv_at hl 0 rfl) ?_
      refine gR X hI fdX8_30 (la_2 hn) rf8_0 dX8_readNewName_41 ?_
      refine gI X hI fdX8_133 (la_5 hn) dX8_readNewName_44 ?_
      obtain ⟨q5, h6, hm⟩ := g_b hm
      refine backV X hI (runV X hI (ctX9_set x1 (0 : Int32) (m.1 5 6) hx1 hn _ _ h6 _) mdX8_150 hx1 rfl ⟨rfl, rfl⟩ ⟨Nat.le_of_ble_eq_true rfl, Nat.le_of_ble_eq_true rfl⟩ rfl hl.1 rfl (Nat.le_of_ble_eq_true rfl) dX8_readNewName_47) (fun H locs hI => ?_)
      refine lv_aload_n hx hb dX8_readNewName_50 rfl (lv_at hl 0 rfl) ?_
      refine gR X hI fdX8_30 (la_2 hn) rf8_0 dX8_readNewName_51 ?_
      obtain ⟨q7, h8, hm⟩ := g_b hm
      refine backV X hI (runV X hI (ctX10_advance N  hn _ _ h8 _) mdX8_110 (la_5 hn) rfl ⟨rfl, rfl⟩ ⟨Nat.le_of_ble_eq_true rfl, Nat.le_of_ble_eq_true rfl⟩ rfl hl.1 rfl (Nat.le_of_ble_eq_true rfl) dX8_readNewName_54) (fun H locs hI => ?_)
      refine lv_iconst (v := (1 : Int32)) hx hb dX8_readNewName_57 (by decide) ?_
      exact rZ X hI hr (by decide) (g_p hm).1 (g_p hm).2 dX8_readNewName_58
    · have hm := g_f c4 hm
      refine lv_aload_n hx hb dX8_readNewName_32 rfl (lv_at hl 0 rfl) ?_
      refine lv_iconst (v := (3 : Int32)) hx hb dX8_readNewName_33 (by decide) ?_
      obtain ⟨q9, h10, hm⟩ := g_b hm
      refine backI X hI (runV X hI (ctX8_fail (3 : Int32)  hn _ _ h10 _) mdX8_106 (la_2 hn) rfl ⟨rfl, rfl⟩ ⟨Nat.le_of_ble_eq_true rfl, Nat.le_of_ble_eq_true rfl⟩ rfl hl.1 rfl (Nat.le_of_ble_eq_true rfl) dX8_readNewName_34) (fun H locs hI => ?_)
      obtain ⟨g11, hm⟩ := g_is hm
      exact rZ X hI hr g11 (g_p hm).1 (g_p hm).2 dX8_readNewName_37
  · have hm := g_f c1 hm
    refine lv_aload_n hx hb dX8_readNewName_12 rfl (lv_at hl 0 rfl) ?_
    refine lv_iconst (v := (1 : Int32)) hx hb dX8_readNewName_13 (by decide) ?_
    obtain ⟨q12, h13, hm⟩ := g_b hm
    refine backI X hI (runV X hI (ctX8_fail (1 : Int32)  hn _ _ h13 _) mdX8_106 (la_2 hn) rfl ⟨rfl, rfl⟩ ⟨Nat.le_of_ble_eq_true rfl, Nat.le_of_ble_eq_true rfl⟩ rfl hl.1 rfl (Nat.le_of_ble_eq_true rfl) dX8_readNewName_14) (fun H locs hI => ?_)
    obtain ⟨g14, hm⟩ := g_is hm
    exact rZ X hI hr g14 (g_p hm).1 (g_p hm).2 dX8_readNewName_17
abbrev rmX8_isNumber : Room := { frames := 1, cells := 0, slots := 0, locals := 21 }
def fX8_isNumber_40   (m : Mem) : Option (Int32 × Mem) := (fX8_fail (2 : Int32) m).bind (fun q3 => if q3.1 = 0 then (some ((0 : Int32), q3.2)) else (some ((1 : Int32), q3.2)))
set_option maxHeartbeats 4000000 in
set_option maxRecDepth 100000 in
theorem tX8_isNumber_40  {l : Launch} {D : va_G} {ca : Nat → ClassId} {ad : Nat → Nat} {p : Program} {e : Env} {s : State} {mm : MethodId} {args : Array Value} {below : List Frame} {meth : Method} {c : Code}  (hn : HNc ca) (X : CX p s mm args meth c cX8_isNumber 3 RX8 D ca ad (WA ca ad s.heap.size)) (hr : meth.sig.returnType = (some .boolean)) (fin : (Int32 × Mem))  : ∀  (m : Mem) (H : Heap) (locs : List Loc) (ls : Array Slot), IW D ca ad (WA ca ad s.heap.size) s m H locs → lv_has ls 3 [(0, .ref (ad 2))] → fX8_isNumber_40  m = some fin → W p l e rmX8_isNumber s mm args below meth c H locs 0 0 (MQ below (QI D ca ad s.heap.size fin.1 fin.2) args s 0 0 (WA ca ad s.heap.size)) (F0 mm 40 ls []) := by
  have hx := X.1
  have hb := X.2.1
  intro m H locs ls hI hl hm
  have hm : ((fX8_fail (2 : Int32) m).bind (fun q3 => if q3.1 = 0 then (some ((0 : Int32), q3.2)) else (some ((1 : Int32), q3.2)))) = some fin := hm
  refine lv_aload_n hx hb dX8_isNumber_40 rfl (lv_at hl 0 rfl) ?_
  refine lv_iconst (v := (2 : Int32)) hx hb dX8_isNumber_41 (by decide) ?_
  obtain ⟨q3, h4, hm⟩ := g_b hm
  refine backI X hI (runV X hI (ctX8_fail (2 : Int32)  hn _ _ h4 _) mdX8_106 (la_2 hn) rfl ⟨rfl, rfl⟩ ⟨Nat.le_of_ble_eq_true rfl, Nat.le_of_ble_eq_true rfl⟩ rfl hl.1 rfl (Nat.le_of_ble_eq_true rfl) dX8_isNumber_42) (fun H locs hI => ?_)
  refine lv_if_eq (tgt := 52) hx hb dX8_isNumber_45 (by decide) (fun c5 => ?_) (fun c5 => ?_)
  · have hm := g_t c5 hm
    refine lv_iconst (v := (0 : Int32)) hx hb dX8_isNumber_52 (by decide) ?_
    exact rZ X hI hr (by decide) (g_p hm).1 (g_p hm).2 dX8_isNumber_53
  · have hm := g_f c5 hm
    refine lv_iconst (v := (1 : Int32)) hx hb dX8_isNumber_48 (by decide) ?_
    refine lv_goto (tgt := 53) hx hb dX8_isNumber_49 (by decide) ?_
    exact rZ X hI hr (by decide) (g_p hm).1 (g_p hm).2 dX8_isNumber_53
def fX8_isNumber  (x1 : Int32) (x2 : Int32) (m : Mem) : Option (Int32 × Mem) := if (m.1 5 4) = (21 : Int32) then (if (m.1 5 6) < x1 then (fX8_isNumber_40 m) else (if (m.1 5 6) ≤ x2 then (some ((1 : Int32), m)) else (fX8_isNumber_40 m))) else ((fX8_fail (1 : Int32) m).bind (fun q7 => if q7.1 = 0 ∨ q7.1 = 1 then (some (q7.1, q7.2)) else none))
set_option maxHeartbeats 4000000 in
set_option maxRecDepth 100000 in
theorem ctX8_isNumber {l : Launch} {D : va_G} {ca : Nat → ClassId} {ad : Nat → Nat}  (x1 : Int32) (x2 : Int32)  (hn : HNc ca) (m : Mem) (fin : (Int32 × Mem)) (hm : fX8_isNumber x1 x2 m = some fin) : CI l D ca ad yX8_isNumber cwX8_isNumber rmX8_isNumber [.ref (ad 2), .int x1, .int x2] m fin.1 fin.2 := by
  refine start (by decide) (Nat.le_of_ble_eq_true rfl) ?_
  intro p e s mm args below meth c H locs ls X hI hr hl
  have X : CX p s mm args meth c cX8_isNumber 3 RX8 D ca ad (WA ca ad s.heap.size) := X
  have hx := X.1
  have hb := X.2.1
  have hl : lv_has ls 3 [(0, .ref (ad 2)), (1, .int x1), (2, .int x2)] := hl
  have hm : (if (m.1 5 4) = (21 : Int32) then (if (m.1 5 6) < x1 then (fX8_isNumber_40 m) else (if (m.1 5 6) ≤ x2 then (some ((1 : Int32), m)) else (fX8_isNumber_40 m))) else ((fX8_fail (1 : Int32) m).bind (fun q7 => if q7.1 = 0 ∨ q7.1 = 1 then (some (q7.1, q7.2)) else none))) = some fin := hm
  refine lv_aload_n hx hb dX8_isNumber_0 rfl (lv_at hl 0 rfl) ?_
  refine gR X hI fdX8_30 (la_2 hn) rf8_0 dX8_isNumber_1 ?_
  refine gI X hI fdX8_46 (la_5 hn) dX8_isNumber_4 ?_
  refine lv_bipush (v := (21 : Int32)) hx hb dX8_isNumber_7 (by decide) ?_
  refine lv_icmp_eq (tgt := 18) hx hb dX8_isNumber_9 (by decide) (fun c1 => ?_) (fun c1 => ?_)
  · have hm := g_t c1 hm
    refine lv_aload_n hx hb dX8_isNumber_18 rfl (lv_at hl 0 rfl) ?_
    refine gR X hI fdX8_30 (la_2 hn) rf8_0 dX8_isNumber_19 ?_
    refine gI X hI fdX8_133 (la_5 hn) dX8_isNumber_22 ?_
    refine lv_iload_n hx hb dX8_isNumber_25 rfl (lv_at hl 1 rfl) ?_
    refine lv_icmp_lt (tgt := 40) hx hb dX8_isNumber_26 (by decide) (fun c2 => ?_) (fun c2 => ?_)
    · have hm := g_t c2 hm
      exact tX8_isNumber_40  hn X hr fin  m H locs ls hI (lv_sub hl [0] rfl) hm
    · have hm := g_f c2 hm
      refine lv_aload_n hx hb dX8_isNumber_29 rfl (lv_at hl 0 rfl) ?_
      refine gR X hI fdX8_30 (la_2 hn) rf8_0 dX8_isNumber_30 ?_
      refine gI X hI fdX8_133 (la_5 hn) dX8_isNumber_33 ?_
      refine lv_iload_n hx hb dX8_isNumber_36 rfl (lv_at hl 2 rfl) ?_
      refine lv_icmp_le (tgt := 48) hx hb dX8_isNumber_37 (by decide) (fun c6 => ?_) (fun c6 => ?_)
      · have hm := g_t c6 hm
        refine lv_iconst (v := (1 : Int32)) hx hb dX8_isNumber_48 (by decide) ?_
        refine lv_goto (tgt := 53) hx hb dX8_isNumber_49 (by decide) ?_
        exact rZ X hI hr (by decide) (g_p hm).1 (g_p hm).2 dX8_isNumber_53
      · have hm := g_f c6 hm
        exact tX8_isNumber_40  hn X hr fin  m H locs ls hI (lv_sub hl [0] rfl) hm
  · have hm := g_f c1 hm
    refine lv_aload_n hx hb dX8_isNumber_12 rfl (lv_at hl 0 rfl) ?_
    refine lv_iconst (v := (1 : Int32)) hx hb dX8_isNumber_13 (by decide) ?_
    obtain ⟨q7, h8, hm⟩ := g_b hm
    refine backI X hI (runV X hI (ctX8_fail (1 : Int32)  hn _ _ h8 _) mdX8_106 (la_2 hn) rfl ⟨rfl, rfl⟩ ⟨Nat.le_of_ble_eq_true rfl, Nat.le_of_ble_eq_true rfl⟩ rfl hl.1 rfl (Nat.le_of_ble_eq_true rfl) dX8_isNumber_14) (fun H locs hI => ?_)
    obtain ⟨g9, hm⟩ := g_is hm
    exact rZ X hI hr g9 (g_p hm).1 (g_p hm).2 dX8_isNumber_17
abbrev rmX8_readCell : Room := { frames := 3, cells := 0, slots := 0, locals := 67 }
def fX8_readCell (N : Nat) (x1 : Nat) (x2 : Int32) (x3 : Int32) (x4 : Int32) (m : Mem) : Option (Int32 × Mem) := (fX8_isNumber x3 x4 m).bind (fun q1 => if q1.1 = 0 then (some ((0 : Int32), q1.2)) else ((fX9_set x1 x2 (q1.2.1 5 6) q1.2).bind (fun q4 => (fX10_advance N q4).bind (fun q6 => some ((1 : Int32), q6)))))
set_option maxHeartbeats 4000000 in
set_option maxRecDepth 100000 in
theorem ctX8_readCell {l : Launch} {D : va_G} {ca : Nat → ClassId} {ad : Nat → Nat} (N : Nat) (x1 : Nat) (x2 : Int32) (x3 : Int32) (x4 : Int32) (hx1 : ly ca x1 = (0, 9)) (hn : HNc ca) (m : Mem) (fin : (Int32 × Mem)) (hm : fX8_readCell N x1 x2 x3 x4 m = some fin) : CI l D ca ad yX8_readCell cwX8_readCell rmX8_readCell [.ref (ad 2), .ref (ad x1), .int x2, .int x3, .int x4] m fin.1 fin.2 := by
  refine start (by decide) (Nat.le_of_ble_eq_true rfl) ?_
  intro p e s mm args below meth c H locs ls X hI hr hl
  have X : CX p s mm args meth c cX8_readCell 5 RX8 D ca ad (WA ca ad s.heap.size) := X
  have hx := X.1
  have hb := X.2.1
  have hl : lv_has ls 5 [(0, .ref (ad 2)), (1, .ref (ad x1)), (2, .int x2), (3, .int x3), (4, .int x4)] := hl
  have hm : ((fX8_isNumber x3 x4 m).bind (fun q1 => if q1.1 = 0 then (some ((0 : Int32), q1.2)) else ((fX9_set x1 x2 (q1.2.1 5 6) q1.2).bind (fun q4 => (fX10_advance N q4).bind (fun q6 => some ((1 : Int32), q6)))))) = some fin := hm
  refine lv_aload_n hx hb dX8_readCell_0 rfl (lv_at hl 0 rfl) ?_
  refine lv_iload_n hx hb dX8_readCell_1 rfl (lv_at hl 3 rfl) ?_
  refine lv_iload hx hb dX8_readCell_2 (lv_at hl 4 rfl) ?_
  obtain ⟨q1, h2, hm⟩ := g_b hm
  refine backI X hI (runV X hI (ctX8_isNumber x3 x4  hn _ _ h2 _) mdX8_154 (la_2 hn) rfl ⟨rfl, rfl⟩ ⟨Nat.le_of_ble_eq_true rfl, Nat.le_of_ble_eq_true rfl⟩ rfl hl.1 rfl (Nat.le_of_ble_eq_true rfl) dX8_readCell_4) (fun H locs hI => ?_)
  refine lv_if_ne (tgt := 12) hx hb dX8_readCell_7 (by decide) (fun c3 => ?_) (fun c3 => ?_)
  · have hm := g_f c3 hm
    refine lv_aload_n hx hb dX8_readCell_12 rfl (lv_at hl 1 rfl) ?_
    refine lv_iload_n hx hb dX8_readCell_13 rfl (lv_at hl 2 rfl) ?_
    refine lv_aload_n hx hb dX8_readCell_14 rfl (lv_at hl 0 rfl) ?_
    refine gR X hI fdX8_30 (la_2 hn) rf8_0 dX8_readCell_15 ?_
    refine gI X hI fdX8_133 (la_5 hn) dX8_readCell_18 ?_
    obtain ⟨q4, h5, hm⟩ := g_b hm
    refine backV X hI (runV X hI (ctX9_set x1 x2 (q1.2.1 5 6) hx1 hn _ _ h5 _) mdX8_150 hx1 rfl ⟨rfl, rfl⟩ ⟨Nat.le_of_ble_eq_true rfl, Nat.le_of_ble_eq_true rfl⟩ rfl hl.1 rfl (Nat.le_of_ble_eq_true rfl) dX8_readCell_21) (fun H locs hI => ?_)
    refine lv_aload_n hx hb dX8_readCell_24 rfl (lv_at hl 0 rfl) ?_
    refine gR X hI fdX8_30 (la_2 hn) rf8_0 dX8_readCell_25 ?_
    obtain ⟨q6, h7, hm⟩ := g_b hm
    refine backV X hI (runV X hI (ctX10_advance N  hn _ _ h7 _) mdX8_110 (la_5 hn) rfl ⟨rfl, rfl⟩ ⟨Nat.le_of_ble_eq_true rfl, Nat.le_of_ble_eq_true rfl⟩ rfl hl.1 rfl (Nat.le_of_ble_eq_true rfl) dX8_readCell_28) (fun H locs hI => ?_)
    refine lv_iconst (v := (1 : Int32)) hx hb dX8_readCell_31 (by decide) ?_
    exact rZ X hI hr (by decide) (g_p hm).1 (g_p hm).2 dX8_readCell_32
  · have hm := g_t c3 hm
    refine lv_iconst (v := (0 : Int32)) hx hb dX8_readCell_10 (by decide) ?_
    exact rZ X hI hr (by decide) (g_p hm).1 (g_p hm).2 dX8_readCell_11
abbrev rmX9_close : Room := { frames := 0, cells := 0, slots := 0, locals := 0 }
def fX9_close  (x0 : Nat) (m : Mem) : Option (Int32 × Mem) := some ((1 : Int32), (mI m x0 2 ((m.1 x0 2) + (1 : Int32))))
set_option maxHeartbeats 4000000 in
set_option maxRecDepth 100000 in
theorem ctX9_close {l : Launch} {D : va_G} {ca : Nat → ClassId} {ad : Nat → Nat}  (x0 : Nat) (hx0 : ly ca x0 = (0, 9)) (hn : HNc ca) (m : Mem) (fin : (Int32 × Mem)) (hm : fX9_close x0 m = some fin) : CI l D ca ad yX9_close cwX9_close rmX9_close [.ref (ad x0)] m fin.1 fin.2 := by
  refine start (by decide) (Nat.le_of_ble_eq_true rfl) ?_
  intro p e s mm args below meth c H locs ls X hI hr hl
  have X : CX p s mm args meth c cX9_close 1 RX9 D ca ad (WA ca ad s.heap.size) := X
  have hx := X.1
  have hb := X.2.1
  have hl : lv_has ls 1 [(0, .ref (ad x0))] := hl
  have hm : (some ((1 : Int32), (mI m x0 2 ((m.1 x0 2) + (1 : Int32))))) = some fin := hm
  refine lv_aload_n hx hb dX9_close_0 rfl (lv_at hl 0 rfl) ?_
  refine lv_dup hx hb dX9_close_1 rfl ?_
  refine gI X hI fdX9_19 hx0 dX9_close_2 ?_
  refine lv_iconst (v := (1 : Int32)) hx hb dX9_close_5 (by decide) ?_
  refine lv_iadd hx hb dX9_close_6 ?_
  refine pI X hI fpX9_19 hx0 dX9_close_7 (fun H locs hI => ?_)
  refine lv_iconst (v := (1 : Int32)) hx hb dX9_close_10 (by decide) ?_
  exact rZ X hI hr (by decide) (g_p hm).1 (g_p hm).2 dX9_close_11
abbrev rmX8_readKnight : Room := { frames := 4, cells := 0, slots := 0, locals := 91 }
def fX8_readKnight (N : Nat) (x1 : Nat) (m : Mem) : Option (Int32 × Mem) := (fX8_openRow N x1 m).bind (fun q1 => if q1.1 = 0 then (some ((0 : Int32), q1.2)) else ((fX8_readNewName N x1 q1.2).bind (fun q4 => if q4.1 = 0 then (some ((0 : Int32), q4.2)) else ((fX8_readCell N x1 (1 : Int32) (0 : Int32) (99 : Int32) q4.2).bind (fun q7 => if q7.1 = 0 then (some ((0 : Int32), q7.2)) else ((fX8_readCell N x1 (2 : Int32) (0 : Int32) (9 : Int32) q7.2).bind (fun q10 => if q10.1 = 0 then (some ((0 : Int32), q10.2)) else ((fX9_close x1 q10.2).bind (fun q13 => if q13.1 = 0 then (some ((0 : Int32), q13.2)) else (some ((1 : Int32), q13.2)))))))))))
set_option maxHeartbeats 4000000 in
set_option maxRecDepth 100000 in
theorem ctX8_readKnight {l : Launch} {D : va_G} {ca : Nat → ClassId} {ad : Nat → Nat} (N : Nat) (x1 : Nat) (hx1 : ly ca x1 = (0, 9)) (hn : HNc ca) (m : Mem) (fin : (Int32 × Mem)) (hm : fX8_readKnight N x1 m = some fin) : CI l D ca ad yX8_readKnight cwX8_readKnight rmX8_readKnight [.ref (ad 2), .ref (ad x1)] m fin.1 fin.2 := by
  refine start (by decide) (Nat.le_of_ble_eq_true rfl) ?_
  intro p e s mm args below meth c H locs ls X hI hr hl
  have X : CX p s mm args meth c cX8_readKnight 2 RX8 D ca ad (WA ca ad s.heap.size) := X
  have hx := X.1
  have hb := X.2.1
  have hl : lv_has ls 2 [(0, .ref (ad 2)), (1, .ref (ad x1))] := hl
  have hm : ((fX8_openRow N x1 m).bind (fun q1 => if q1.1 = 0 then (some ((0 : Int32), q1.2)) else ((fX8_readNewName N x1 q1.2).bind (fun q4 => if q4.1 = 0 then (some ((0 : Int32), q4.2)) else ((fX8_readCell N x1 (1 : Int32) (0 : Int32) (99 : Int32) q4.2).bind (fun q7 => if q7.1 = 0 then (some ((0 : Int32), q7.2)) else ((fX8_readCell N x1 (2 : Int32) (0 : Int32) (9 : Int32) q7.2).bind (fun q10 => if q10.1 = 0 then (some ((0 : Int32), q10.2)) else ((fX9_close x1 q10.2).bind (fun q13 => if q13.1 = 0 then (some ((0 : Int32), q13.2)) else (some ((1 : Int32), q13.2)))))))))))) = some fin := hm
  refine lv_aload_n hx hb dX8_readKnight_0 rfl (lv_at hl 0 rfl) ?_
  refine lv_aload_n hx hb dX8_readKnight_1 rfl (lv_at hl 1 rfl) ?_
  obtain ⟨q1, h2, hm⟩ := g_b hm
  refine backI X hI (runV X hI (ctX8_openRow N x1 hx1 hn _ _ h2 _) mdX8_113 (la_2 hn) rfl ⟨rfl, rfl⟩ ⟨Nat.le_of_ble_eq_true rfl, Nat.le_of_ble_eq_true rfl⟩ rfl hl.1 rfl (Nat.le_of_ble_eq_true rfl) dX8_readKnight_2) (fun H locs hI => ?_)
  refine lv_if_eq (tgt := 51) hx hb dX8_readKnight_5 (by decide) (fun c3 => ?_) (fun c3 => ?_)
  · have hm := g_t c3 hm
    refine lv_iconst (v := (0 : Int32)) hx hb dX8_readKnight_51 (by decide) ?_
    exact rZ X hI hr (by decide) (g_p hm).1 (g_p hm).2 dX8_readKnight_52
  · have hm := g_f c3 hm
    refine lv_aload_n hx hb dX8_readKnight_8 rfl (lv_at hl 0 rfl) ?_
    refine lv_aload_n hx hb dX8_readKnight_9 rfl (lv_at hl 1 rfl) ?_
    obtain ⟨q4, h5, hm⟩ := g_b hm
    refine backI X hI (runV X hI (ctX8_readNewName N x1 hx1 hn _ _ h5 _) mdX8_116 (la_2 hn) rfl ⟨rfl, rfl⟩ ⟨Nat.le_of_ble_eq_true rfl, Nat.le_of_ble_eq_true rfl⟩ rfl hl.1 rfl (Nat.le_of_ble_eq_true rfl) dX8_readKnight_10) (fun H locs hI => ?_)
    refine lv_if_eq (tgt := 51) hx hb dX8_readKnight_13 (by decide) (fun c6 => ?_) (fun c6 => ?_)
    · have hm := g_t c6 hm
      refine lv_iconst (v := (0 : Int32)) hx hb dX8_readKnight_51 (by decide) ?_
      exact rZ X hI hr (by decide) (g_p hm).1 (g_p hm).2 dX8_readKnight_52
    · have hm := g_f c6 hm
      refine lv_aload_n hx hb dX8_readKnight_16 rfl (lv_at hl 0 rfl) ?_
      refine lv_aload_n hx hb dX8_readKnight_17 rfl (lv_at hl 1 rfl) ?_
      refine lv_iconst (v := (1 : Int32)) hx hb dX8_readKnight_18 (by decide) ?_
      refine lv_iconst (v := (0 : Int32)) hx hb dX8_readKnight_19 (by decide) ?_
      refine lv_bipush (v := (99 : Int32)) hx hb dX8_readKnight_20 (by decide) ?_
      obtain ⟨q7, h8, hm⟩ := g_b hm
      refine backI X hI (runV X hI (ctX8_readCell N x1 (1 : Int32) (0 : Int32) (99 : Int32) hx1 hn _ _ h8 _) mdX8_119 (la_2 hn) rfl ⟨rfl, rfl⟩ ⟨Nat.le_of_ble_eq_true rfl, Nat.le_of_ble_eq_true rfl⟩ rfl hl.1 rfl (Nat.le_of_ble_eq_true rfl) dX8_readKnight_22) (fun H locs hI => ?_)
      refine lv_if_eq (tgt := 51) hx hb dX8_readKnight_25 (by decide) (fun c9 => ?_) (fun c9 => ?_)
      · have hm := g_t c9 hm
        refine lv_iconst (v := (0 : Int32)) hx hb dX8_readKnight_51 (by decide) ?_
        exact rZ X hI hr (by decide) (g_p hm).1 (g_p hm).2 dX8_readKnight_52
      · have hm := g_f c9 hm
        refine lv_aload_n hx hb dX8_readKnight_28 rfl (lv_at hl 0 rfl) ?_
        refine lv_aload_n hx hb dX8_readKnight_29 rfl (lv_at hl 1 rfl) ?_
        refine lv_iconst (v := (2 : Int32)) hx hb dX8_readKnight_30 (by decide) ?_
        refine lv_iconst (v := (0 : Int32)) hx hb dX8_readKnight_31 (by decide) ?_
        refine lv_bipush (v := (9 : Int32)) hx hb dX8_readKnight_32 (by decide) ?_
        obtain ⟨q10, h11, hm⟩ := g_b hm
        refine backI X hI (runV X hI (ctX8_readCell N x1 (2 : Int32) (0 : Int32) (9 : Int32) hx1 hn _ _ h11 _) mdX8_119 (la_2 hn) rfl ⟨rfl, rfl⟩ ⟨Nat.le_of_ble_eq_true rfl, Nat.le_of_ble_eq_true rfl⟩ rfl hl.1 rfl (Nat.le_of_ble_eq_true rfl) dX8_readKnight_34) (fun H locs hI => ?_)
        refine lv_if_eq (tgt := 51) hx hb dX8_readKnight_37 (by decide) (fun c12 => ?_) (fun c12 => ?_)
        · have hm := g_t c12 hm
          refine lv_iconst (v := (0 : Int32)) hx hb dX8_readKnight_51 (by decide) ?_
          exact rZ X hI hr (by decide) (g_p hm).1 (g_p hm).2 dX8_readKnight_52
        · have hm := g_f c12 hm
          refine lv_aload_n hx hb dX8_readKnight_40 rfl (lv_at hl 1 rfl) ?_
          obtain ⟨q13, h14, hm⟩ := g_b hm
          refine backI X hI (runV X hI (ctX9_close x1 hx1 hn _ _ h14 _) mdX8_123 hx1 rfl ⟨rfl, rfl⟩ ⟨Nat.le_of_ble_eq_true rfl, Nat.le_of_ble_eq_true rfl⟩ rfl hl.1 rfl (Nat.le_of_ble_eq_true rfl) dX8_readKnight_41) (fun H locs hI => ?_)
          refine lv_if_eq (tgt := 51) hx hb dX8_readKnight_44 (by decide) (fun c15 => ?_) (fun c15 => ?_)
          · have hm := g_t c15 hm
            refine lv_iconst (v := (0 : Int32)) hx hb dX8_readKnight_51 (by decide) ?_
            exact rZ X hI hr (by decide) (g_p hm).1 (g_p hm).2 dX8_readKnight_52
          · have hm := g_f c15 hm
            refine lv_iconst (v := (1 : Int32)) hx hb dX8_readKnight_47 (by decide) ?_
            refine lv_goto (tgt := 52) hx hb dX8_readKnight_48 (by decide) ?_
            exact rZ X hI hr (by decide) (g_p hm).1 (g_p hm).2 dX8_readKnight_52
abbrev rmX8_readTub : Room := { frames := 4, cells := 0, slots := 0, locals := 91 }
def fX8_readTub (N : Nat) (x1 : Nat) (m : Mem) : Option (Int32 × Mem) := (fX8_openRow N x1 m).bind (fun q1 => if q1.1 = 0 then (some ((0 : Int32), q1.2)) else ((fX8_readNewName N x1 q1.2).bind (fun q4 => if q4.1 = 0 then (some ((0 : Int32), q4.2)) else ((fX8_readCell N x1 (1 : Int32) (1 : Int32) (99 : Int32) q4.2).bind (fun q7 => if q7.1 = 0 then (some ((0 : Int32), q7.2)) else ((fX8_readCell N x1 (2 : Int32) (0 : Int32) (99 : Int32) q7.2).bind (fun q10 => if q10.1 = 0 then (some ((0 : Int32), q10.2)) else ((fX9_close x1 q10.2).bind (fun q13 => if q13.1 = 0 then (some ((0 : Int32), q13.2)) else (some ((1 : Int32), q13.2)))))))))))
set_option maxHeartbeats 4000000 in
set_option maxRecDepth 100000 in
theorem ctX8_readTub {l : Launch} {D : va_G} {ca : Nat → ClassId} {ad : Nat → Nat} (N : Nat) (x1 : Nat) (hx1 : ly ca x1 = (0, 9)) (hn : HNc ca) (m : Mem) (fin : (Int32 × Mem)) (hm : fX8_readTub N x1 m = some fin) : CI l D ca ad yX8_readTub cwX8_readTub rmX8_readTub [.ref (ad 2), .ref (ad x1)] m fin.1 fin.2 := by
  refine start (by decide) (Nat.le_of_ble_eq_true rfl) ?_
  intro p e s mm args below meth c H locs ls X hI hr hl
  have X : CX p s mm args meth c cX8_readTub 2 RX8 D ca ad (WA ca ad s.heap.size) := X
  have hx := X.1
  have hb := X.2.1
  have hl : lv_has ls 2 [(0, .ref (ad 2)), (1, .ref (ad x1))] := hl
  have hm : ((fX8_openRow N x1 m).bind (fun q1 => if q1.1 = 0 then (some ((0 : Int32), q1.2)) else ((fX8_readNewName N x1 q1.2).bind (fun q4 => if q4.1 = 0 then (some ((0 : Int32), q4.2)) else ((fX8_readCell N x1 (1 : Int32) (1 : Int32) (99 : Int32) q4.2).bind (fun q7 => if q7.1 = 0 then (some ((0 : Int32), q7.2)) else ((fX8_readCell N x1 (2 : Int32) (0 : Int32) (99 : Int32) q7.2).bind (fun q10 => if q10.1 = 0 then (some ((0 : Int32), q10.2)) else ((fX9_close x1 q10.2).bind (fun q13 => if q13.1 = 0 then (some ((0 : Int32), q13.2)) else (some ((1 : Int32), q13.2)))))))))))) = some fin := hm
  refine lv_aload_n hx hb dX8_readTub_0 rfl (lv_at hl 0 rfl) ?_
  refine lv_aload_n hx hb dX8_readTub_1 rfl (lv_at hl 1 rfl) ?_
  obtain ⟨q1, h2, hm⟩ := g_b hm
  refine backI X hI (runV X hI (ctX8_openRow N x1 hx1 hn _ _ h2 _) mdX8_113 (la_2 hn) rfl ⟨rfl, rfl⟩ ⟨Nat.le_of_ble_eq_true rfl, Nat.le_of_ble_eq_true rfl⟩ rfl hl.1 rfl (Nat.le_of_ble_eq_true rfl) dX8_readTub_2) (fun H locs hI => ?_)
  refine lv_if_eq (tgt := 51) hx hb dX8_readTub_5 (by decide) (fun c3 => ?_) (fun c3 => ?_)
  · have hm := g_t c3 hm
    refine lv_iconst (v := (0 : Int32)) hx hb dX8_readTub_51 (by decide) ?_
    exact rZ X hI hr (by decide) (g_p hm).1 (g_p hm).2 dX8_readTub_52
  · have hm := g_f c3 hm
    refine lv_aload_n hx hb dX8_readTub_8 rfl (lv_at hl 0 rfl) ?_
    refine lv_aload_n hx hb dX8_readTub_9 rfl (lv_at hl 1 rfl) ?_
    obtain ⟨q4, h5, hm⟩ := g_b hm
    refine backI X hI (runV X hI (ctX8_readNewName N x1 hx1 hn _ _ h5 _) mdX8_116 (la_2 hn) rfl ⟨rfl, rfl⟩ ⟨Nat.le_of_ble_eq_true rfl, Nat.le_of_ble_eq_true rfl⟩ rfl hl.1 rfl (Nat.le_of_ble_eq_true rfl) dX8_readTub_10) (fun H locs hI => ?_)
    refine lv_if_eq (tgt := 51) hx hb dX8_readTub_13 (by decide) (fun c6 => ?_) (fun c6 => ?_)
    · have hm := g_t c6 hm
      refine lv_iconst (v := (0 : Int32)) hx hb dX8_readTub_51 (by decide) ?_
      exact rZ X hI hr (by decide) (g_p hm).1 (g_p hm).2 dX8_readTub_52
    · have hm := g_f c6 hm
      refine lv_aload_n hx hb dX8_readTub_16 rfl (lv_at hl 0 rfl) ?_
      refine lv_aload_n hx hb dX8_readTub_17 rfl (lv_at hl 1 rfl) ?_
      refine lv_iconst (v := (1 : Int32)) hx hb dX8_readTub_18 (by decide) ?_
      refine lv_iconst (v := (1 : Int32)) hx hb dX8_readTub_19 (by decide) ?_
      refine lv_bipush (v := (99 : Int32)) hx hb dX8_readTub_20 (by decide) ?_
      obtain ⟨q7, h8, hm⟩ := g_b hm
      refine backI X hI (runV X hI (ctX8_readCell N x1 (1 : Int32) (1 : Int32) (99 : Int32) hx1 hn _ _ h8 _) mdX8_119 (la_2 hn) rfl ⟨rfl, rfl⟩ ⟨Nat.le_of_ble_eq_true rfl, Nat.le_of_ble_eq_true rfl⟩ rfl hl.1 rfl (Nat.le_of_ble_eq_true rfl) dX8_readTub_22) (fun H locs hI => ?_)
      refine lv_if_eq (tgt := 51) hx hb dX8_readTub_25 (by decide) (fun c9 => ?_) (fun c9 => ?_)
      · have hm := g_t c9 hm
        refine lv_iconst (v := (0 : Int32)) hx hb dX8_readTub_51 (by decide) ?_
        exact rZ X hI hr (by decide) (g_p hm).1 (g_p hm).2 dX8_readTub_52
      · have hm := g_f c9 hm
        refine lv_aload_n hx hb dX8_readTub_28 rfl (lv_at hl 0 rfl) ?_
        refine lv_aload_n hx hb dX8_readTub_29 rfl (lv_at hl 1 rfl) ?_
        refine lv_iconst (v := (2 : Int32)) hx hb dX8_readTub_30 (by decide) ?_
        refine lv_iconst (v := (0 : Int32)) hx hb dX8_readTub_31 (by decide) ?_
        refine lv_bipush (v := (99 : Int32)) hx hb dX8_readTub_32 (by decide) ?_
        obtain ⟨q10, h11, hm⟩ := g_b hm
        refine backI X hI (runV X hI (ctX8_readCell N x1 (2 : Int32) (0 : Int32) (99 : Int32) hx1 hn _ _ h11 _) mdX8_119 (la_2 hn) rfl ⟨rfl, rfl⟩ ⟨Nat.le_of_ble_eq_true rfl, Nat.le_of_ble_eq_true rfl⟩ rfl hl.1 rfl (Nat.le_of_ble_eq_true rfl) dX8_readTub_34) (fun H locs hI => ?_)
        refine lv_if_eq (tgt := 51) hx hb dX8_readTub_37 (by decide) (fun c12 => ?_) (fun c12 => ?_)
        · have hm := g_t c12 hm
          refine lv_iconst (v := (0 : Int32)) hx hb dX8_readTub_51 (by decide) ?_
          exact rZ X hI hr (by decide) (g_p hm).1 (g_p hm).2 dX8_readTub_52
        · have hm := g_f c12 hm
          refine lv_aload_n hx hb dX8_readTub_40 rfl (lv_at hl 1 rfl) ?_
          obtain ⟨q13, h14, hm⟩ := g_b hm
          refine backI X hI (runV X hI (ctX9_close x1 hx1 hn _ _ h14 _) mdX8_123 hx1 rfl ⟨rfl, rfl⟩ ⟨Nat.le_of_ble_eq_true rfl, Nat.le_of_ble_eq_true rfl⟩ rfl hl.1 rfl (Nat.le_of_ble_eq_true rfl) dX8_readTub_41) (fun H locs hI => ?_)
          refine lv_if_eq (tgt := 51) hx hb dX8_readTub_44 (by decide) (fun c15 => ?_) (fun c15 => ?_)
          · have hm := g_t c15 hm
            refine lv_iconst (v := (0 : Int32)) hx hb dX8_readTub_51 (by decide) ?_
            exact rZ X hI hr (by decide) (g_p hm).1 (g_p hm).2 dX8_readTub_52
          · have hm := g_f c15 hm
            refine lv_iconst (v := (1 : Int32)) hx hb dX8_readTub_47 (by decide) ?_
            refine lv_goto (tgt := 52) hx hb dX8_readTub_48 (by decide) ?_
            exact rZ X hI hr (by decide) (g_p hm).1 (g_p hm).2 dX8_readTub_52
abbrev rmX8_readToldName : Room := { frames := 3, cells := 0, slots := 0, locals := 67 }
def fX8_readToldName (N : Nat) (x1 : Nat) (x2 : Nat) (x3 : Int32) (m : Mem) : Option (Int32 × Mem) := if (m.1 5 4) = (-3 : Int32) then ((fX9_find N x1 (m.1 5 6) m).bind (fun q2 => if 0 ≤ q2 then ((fX9_set x2 x3 q2 m).bind (fun q5 => (fX10_advance N q5).bind (fun q7 => some ((1 : Int32), q7)))) else ((fX8_fail (4 : Int32) m).bind (fun q9 => if q9.1 = 0 ∨ q9.1 = 1 then (some (q9.1, q9.2)) else none)))) else ((fX8_fail (1 : Int32) m).bind (fun q12 => if q12.1 = 0 ∨ q12.1 = 1 then (some (q12.1, q12.2)) else none))
set_option maxHeartbeats 4000000 in
set_option maxRecDepth 100000 in
theorem ctX8_readToldName {l : Launch} {D : va_G} {ca : Nat → ClassId} {ad : Nat → Nat} (N : Nat) (x1 : Nat) (x2 : Nat) (x3 : Int32) (hx1 : ly ca x1 = (0, 9)) (hx2 : ly ca x2 = (0, 9)) (hn : HNc ca) (m : Mem) (fin : (Int32 × Mem)) (hm : fX8_readToldName N x1 x2 x3 m = some fin) : CI l D ca ad yX8_readToldName cwX8_readToldName rmX8_readToldName [.ref (ad 2), .ref (ad x1), .ref (ad x2), .int x3] m fin.1 fin.2 := by
  refine start (by decide) (Nat.le_of_ble_eq_true rfl) ?_
  intro p e s mm args below meth c H locs ls X hI hr hl
  have X : CX p s mm args meth c cX8_readToldName 5 RX8 D ca ad (WA ca ad s.heap.size) := X
  have hx := X.1
  have hb := X.2.1
  have hl : lv_has ls 5 [(0, .ref (ad 2)), (1, .ref (ad x1)), (2, .ref (ad x2)), (3, .int x3)] := hl
  have hm : (if (m.1 5 4) = (-3 : Int32) then ((fX9_find N x1 (m.1 5 6) m).bind (fun q2 => if 0 ≤ q2 then ((fX9_set x2 x3 q2 m).bind (fun q5 => (fX10_advance N q5).bind (fun q7 => some ((1 : Int32), q7)))) else ((fX8_fail (4 : Int32) m).bind (fun q9 => if q9.1 = 0 ∨ q9.1 = 1 then (some (q9.1, q9.2)) else none)))) else ((fX8_fail (1 : Int32) m).bind (fun q12 => if q12.1 = 0 ∨ q12.1 = 1 then (some (q12.1, q12.2)) else none))) = some fin := hm
  refine lv_aload_n hx hb dX8_readToldName_0 rfl (lv_at hl 0 rfl) ?_
  refine gR X hI fdX8_30 (la_2 hn) rf8_0 dX8_readToldName_1 ?_
  refine gI X hI fdX8_46 (la_5 hn) dX8_readToldName_4 ?_
  refine lv_bipush (v := (-3 : Int32)) hx hb dX8_readToldName_7 (by decide) ?_
  refine lv_icmp_eq (tgt := 18) hx hb dX8_readToldName_9 (by decide) (fun c1 => ?_) (fun c1 => ?_)
  · have hm := g_t c1 hm
    refine lv_aload_n hx hb dX8_readToldName_18 rfl (lv_at hl 1 rfl) ?_
    refine lv_aload_n hx hb dX8_readToldName_19 rfl (lv_at hl 0 rfl) ?_
    refine gR X hI fdX8_30 (la_2 hn) rf8_0 dX8_readToldName_20 ?_
    refine gI X hI fdX8_133 (la_5 hn) dX8_readToldName_23 ?_
    obtain ⟨q2, h3, hm⟩ := g_b hm
    refine backI X hI (runV X hI (ctX9_find N x1 (m.1 5 6) hx1 hn _ _ h3 _) mdX8_136 hx1 rfl ⟨rfl, rfl⟩ ⟨Nat.le_of_ble_eq_true rfl, Nat.le_of_ble_eq_true rfl⟩ rfl hl.1 rfl (Nat.le_of_ble_eq_true rfl) dX8_readToldName_26) (fun H locs hI => ?_)
    refine lv_istore (lv' := [(4, .int q2), (0, .ref (ad 2)), (1, .ref (ad x1)), (2, .ref (ad x2)), (3, .int x3)]) hx hb dX8_readToldName_29 hl (by decide) rfl (fun ls hl => ?_)
    refine lv_iload hx hb dX8_readToldName_31 (lv_at hl 0 rfl) ?_
    refine lv_if_ge (tgt := 42) hx hb dX8_readToldName_33 (by decide) (fun c4 => ?_) (fun c4 => ?_)
    · have hm := g_t c4 hm
      refine lv_aload_n hx hb dX8_readToldName_42 rfl (lv_at hl 3 rfl) ?_
      refine lv_iload_n hx hb dX8_readToldName_43 rfl (lv_at hl 4 rfl) ?_
      refine lv_iload hx hb dX8_readToldName_44 (lv_at hl 0 rfl) ?_
      obtain ⟨q5, h6, hm⟩ := g_b hm
      refine backV X hI (runV X hI (ctX9_set x2 x3 q2 hx2 hn _ _ h6 _) mdX8_150 hx2 rfl ⟨rfl, rfl⟩ ⟨Nat.le_of_ble_eq_true rfl, Nat.le_of_ble_eq_true rfl⟩ rfl hl.1 rfl (Nat.le_of_ble_eq_true rfl) dX8_readToldName_46) (fun H locs hI => ?_)
      refine lv_aload_n hx hb dX8_readToldName_49 rfl (lv_at hl 1 rfl) ?_
      refine gR X hI fdX8_30 (la_2 hn) rf8_0 dX8_readToldName_50 ?_
      obtain ⟨q7, h8, hm⟩ := g_b hm
      refine backV X hI (runV X hI (ctX10_advance N  hn _ _ h8 _) mdX8_110 (la_5 hn) rfl ⟨rfl, rfl⟩ ⟨Nat.le_of_ble_eq_true rfl, Nat.le_of_ble_eq_true rfl⟩ rfl hl.1 rfl (Nat.le_of_ble_eq_true rfl) dX8_readToldName_53) (fun H locs hI => ?_)
      refine lv_iconst (v := (1 : Int32)) hx hb dX8_readToldName_56 (by decide) ?_
      exact rZ X hI hr (by decide) (g_p hm).1 (g_p hm).2 dX8_readToldName_57
    · have hm := g_f c4 hm
      refine lv_aload_n hx hb dX8_readToldName_36 rfl (lv_at hl 1 rfl) ?_
      refine lv_iconst (v := (4 : Int32)) hx hb dX8_readToldName_37 (by decide) ?_
      obtain ⟨q9, h10, hm⟩ := g_b hm
      refine backI X hI (runV X hI (ctX8_fail (4 : Int32)  hn _ _ h10 _) mdX8_106 (la_2 hn) rfl ⟨rfl, rfl⟩ ⟨Nat.le_of_ble_eq_true rfl, Nat.le_of_ble_eq_true rfl⟩ rfl hl.1 rfl (Nat.le_of_ble_eq_true rfl) dX8_readToldName_38) (fun H locs hI => ?_)
      obtain ⟨g11, hm⟩ := g_is hm
      exact rZ X hI hr g11 (g_p hm).1 (g_p hm).2 dX8_readToldName_41
  · have hm := g_f c1 hm
    refine lv_aload_n hx hb dX8_readToldName_12 rfl (lv_at hl 0 rfl) ?_
    refine lv_iconst (v := (1 : Int32)) hx hb dX8_readToldName_13 (by decide) ?_
    obtain ⟨q12, h13, hm⟩ := g_b hm
    refine backI X hI (runV X hI (ctX8_fail (1 : Int32)  hn _ _ h13 _) mdX8_106 (la_2 hn) rfl ⟨rfl, rfl⟩ ⟨Nat.le_of_ble_eq_true rfl, Nat.le_of_ble_eq_true rfl⟩ rfl hl.1 rfl (Nat.le_of_ble_eq_true rfl) dX8_readToldName_14) (fun H locs hI => ?_)
    obtain ⟨g14, hm⟩ := g_is hm
    exact rZ X hI hr g14 (g_p hm).1 (g_p hm).2 dX8_readToldName_17
abbrev rmX8_readSitting : Room := { frames := 4, cells := 0, slots := 0, locals := 91 }
def fX8_readSitting (N : Nat) (x1 : Nat) (x2 : Nat) (m : Mem) : Option (Int32 × Mem) := (fX8_openRow N x2 m).bind (fun q1 => if q1.1 = 0 then (some ((0 : Int32), q1.2)) else ((fX8_readToldName N (x1 + 1) x2 (0 : Int32) q1.2).bind (fun q4 => if q4.1 = 0 then (some ((0 : Int32), q4.2)) else ((fX8_readToldName N (x1 + 3) x2 (1 : Int32) q4.2).bind (fun q7 => if q7.1 = 0 then (some ((0 : Int32), q7.2)) else ((fX8_readCell N x2 (2 : Int32) (0 : Int32) (99 : Int32) q7.2).bind (fun q10 => if q10.1 = 0 then (some ((0 : Int32), q10.2)) else ((fX9_close x2 q10.2).bind (fun q13 => if q13.1 = 0 then (some ((0 : Int32), q13.2)) else (some ((1 : Int32), q13.2)))))))))))
set_option maxHeartbeats 4000000 in
set_option maxRecDepth 100000 in
theorem ctX8_readSitting {l : Launch} {D : va_G} {ca : Nat → ClassId} {ad : Nat → Nat} (N : Nat) (x1 : Nat) (x2 : Nat) (hx1 : ly ca x1 = (0, 6)) (hx2 : ly ca x2 = (0, 9)) (hn : HNc ca) (m : Mem) (fin : (Int32 × Mem)) (hm : fX8_readSitting N x1 x2 m = some fin) : CI l D ca ad yX8_readSitting cwX8_readSitting rmX8_readSitting [.ref (ad 2), .ref (ad x1), .ref (ad x2)] m fin.1 fin.2 := by
  refine start (by decide) (Nat.le_of_ble_eq_true rfl) ?_
  intro p e s mm args below meth c H locs ls X hI hr hl
  have X : CX p s mm args meth c cX8_readSitting 3 RX8 D ca ad (WA ca ad s.heap.size) := X
  have hx := X.1
  have hb := X.2.1
  have hl : lv_has ls 3 [(0, .ref (ad 2)), (1, .ref (ad x1)), (2, .ref (ad x2))] := hl
  have hm : ((fX8_openRow N x2 m).bind (fun q1 => if q1.1 = 0 then (some ((0 : Int32), q1.2)) else ((fX8_readToldName N (x1 + 1) x2 (0 : Int32) q1.2).bind (fun q4 => if q4.1 = 0 then (some ((0 : Int32), q4.2)) else ((fX8_readToldName N (x1 + 3) x2 (1 : Int32) q4.2).bind (fun q7 => if q7.1 = 0 then (some ((0 : Int32), q7.2)) else ((fX8_readCell N x2 (2 : Int32) (0 : Int32) (99 : Int32) q7.2).bind (fun q10 => if q10.1 = 0 then (some ((0 : Int32), q10.2)) else ((fX9_close x2 q10.2).bind (fun q13 => if q13.1 = 0 then (some ((0 : Int32), q13.2)) else (some ((1 : Int32), q13.2)))))))))))) = some fin := hm
  refine lv_aload_n hx hb dX8_readSitting_0 rfl (lv_at hl 0 rfl) ?_
  refine lv_aload_n hx hb dX8_readSitting_1 rfl (lv_at hl 2 rfl) ?_
  obtain ⟨q1, h2, hm⟩ := g_b hm
  refine backI X hI (runV X hI (ctX8_openRow N x2 hx2 hn _ _ h2 _) mdX8_113 (la_2 hn) rfl ⟨rfl, rfl⟩ ⟨Nat.le_of_ble_eq_true rfl, Nat.le_of_ble_eq_true rfl⟩ rfl hl.1 rfl (Nat.le_of_ble_eq_true rfl) dX8_readSitting_2) (fun H locs hI => ?_)
  refine lv_if_eq (tgt := 57) hx hb dX8_readSitting_5 (by decide) (fun c3 => ?_) (fun c3 => ?_)
  · have hm := g_t c3 hm
    refine lv_iconst (v := (0 : Int32)) hx hb dX8_readSitting_57 (by decide) ?_
    exact rZ X hI hr (by decide) (g_p hm).1 (g_p hm).2 dX8_readSitting_58
  · have hm := g_f c3 hm
    refine lv_aload_n hx hb dX8_readSitting_8 rfl (lv_at hl 0 rfl) ?_
    refine lv_aload_n hx hb dX8_readSitting_9 rfl (lv_at hl 1 rfl) ?_
    refine gR X hI fdX8_59 hx1 rf6_0 dX8_readSitting_10 ?_
    refine lv_aload_n hx hb dX8_readSitting_13 rfl (lv_at hl 2 rfl) ?_
    refine lv_iconst (v := (0 : Int32)) hx hb dX8_readSitting_14 (by decide) ?_
    obtain ⟨q4, h5, hm⟩ := g_b hm
    refine backI X hI (runV X hI (ctX8_readToldName N (x1 + 1) x2 (0 : Int32) (lf6_0 hn hx1) hx2 hn _ _ h5 _) mdX8_129 (la_2 hn) rfl ⟨rfl, rfl⟩ ⟨Nat.le_of_ble_eq_true rfl, Nat.le_of_ble_eq_true rfl⟩ rfl hl.1 rfl (Nat.le_of_ble_eq_true rfl) dX8_readSitting_15) (fun H locs hI => ?_)
    refine lv_if_eq (tgt := 57) hx hb dX8_readSitting_18 (by decide) (fun c6 => ?_) (fun c6 => ?_)
    · have hm := g_t c6 hm
      refine lv_iconst (v := (0 : Int32)) hx hb dX8_readSitting_57 (by decide) ?_
      exact rZ X hI hr (by decide) (g_p hm).1 (g_p hm).2 dX8_readSitting_58
    · have hm := g_f c6 hm
      refine lv_aload_n hx hb dX8_readSitting_21 rfl (lv_at hl 0 rfl) ?_
      refine lv_aload_n hx hb dX8_readSitting_22 rfl (lv_at hl 1 rfl) ?_
      refine gR X hI fdX8_67 hx1 rf6_1 dX8_readSitting_23 ?_
      refine lv_aload_n hx hb dX8_readSitting_26 rfl (lv_at hl 2 rfl) ?_
      refine lv_iconst (v := (1 : Int32)) hx hb dX8_readSitting_27 (by decide) ?_
      obtain ⟨q7, h8, hm⟩ := g_b hm
      refine backI X hI (runV X hI (ctX8_readToldName N (x1 + 3) x2 (1 : Int32) (lf6_1 hn hx1) hx2 hn _ _ h8 _) mdX8_129 (la_2 hn) rfl ⟨rfl, rfl⟩ ⟨Nat.le_of_ble_eq_true rfl, Nat.le_of_ble_eq_true rfl⟩ rfl hl.1 rfl (Nat.le_of_ble_eq_true rfl) dX8_readSitting_28) (fun H locs hI => ?_)
      refine lv_if_eq (tgt := 57) hx hb dX8_readSitting_31 (by decide) (fun c9 => ?_) (fun c9 => ?_)
      · have hm := g_t c9 hm
        refine lv_iconst (v := (0 : Int32)) hx hb dX8_readSitting_57 (by decide) ?_
        exact rZ X hI hr (by decide) (g_p hm).1 (g_p hm).2 dX8_readSitting_58
      · have hm := g_f c9 hm
        refine lv_aload_n hx hb dX8_readSitting_34 rfl (lv_at hl 0 rfl) ?_
        refine lv_aload_n hx hb dX8_readSitting_35 rfl (lv_at hl 2 rfl) ?_
        refine lv_iconst (v := (2 : Int32)) hx hb dX8_readSitting_36 (by decide) ?_
        refine lv_iconst (v := (0 : Int32)) hx hb dX8_readSitting_37 (by decide) ?_
        refine lv_bipush (v := (99 : Int32)) hx hb dX8_readSitting_38 (by decide) ?_
        obtain ⟨q10, h11, hm⟩ := g_b hm
        refine backI X hI (runV X hI (ctX8_readCell N x2 (2 : Int32) (0 : Int32) (99 : Int32) hx2 hn _ _ h11 _) mdX8_119 (la_2 hn) rfl ⟨rfl, rfl⟩ ⟨Nat.le_of_ble_eq_true rfl, Nat.le_of_ble_eq_true rfl⟩ rfl hl.1 rfl (Nat.le_of_ble_eq_true rfl) dX8_readSitting_40) (fun H locs hI => ?_)
        refine lv_if_eq (tgt := 57) hx hb dX8_readSitting_43 (by decide) (fun c12 => ?_) (fun c12 => ?_)
        · have hm := g_t c12 hm
          refine lv_iconst (v := (0 : Int32)) hx hb dX8_readSitting_57 (by decide) ?_
          exact rZ X hI hr (by decide) (g_p hm).1 (g_p hm).2 dX8_readSitting_58
        · have hm := g_f c12 hm
          refine lv_aload_n hx hb dX8_readSitting_46 rfl (lv_at hl 2 rfl) ?_
          obtain ⟨q13, h14, hm⟩ := g_b hm
          refine backI X hI (runV X hI (ctX9_close x2 hx2 hn _ _ h14 _) mdX8_123 hx2 rfl ⟨rfl, rfl⟩ ⟨Nat.le_of_ble_eq_true rfl, Nat.le_of_ble_eq_true rfl⟩ rfl hl.1 rfl (Nat.le_of_ble_eq_true rfl) dX8_readSitting_47) (fun H locs hI => ?_)
          refine lv_if_eq (tgt := 57) hx hb dX8_readSitting_50 (by decide) (fun c15 => ?_) (fun c15 => ?_)
          · have hm := g_t c15 hm
            refine lv_iconst (v := (0 : Int32)) hx hb dX8_readSitting_57 (by decide) ?_
            exact rZ X hI hr (by decide) (g_p hm).1 (g_p hm).2 dX8_readSitting_58
          · have hm := g_f c15 hm
            refine lv_iconst (v := (1 : Int32)) hx hb dX8_readSitting_53 (by decide) ?_
            refine lv_goto (tgt := 58) hx hb dX8_readSitting_54 (by decide) ?_
            exact rZ X hI hr (by decide) (g_p hm).1 (g_p hm).2 dX8_readSitting_58
abbrev rmX8_readCan : Room := { frames := 4, cells := 0, slots := 0, locals := 91 }
def fX8_readCan (N : Nat) (x1 : Nat) (x2 : Nat) (m : Mem) : Option (Int32 × Mem) := (fX8_openRow N x2 m).bind (fun q1 => if q1.1 = 0 then (some ((0 : Int32), q1.2)) else ((fX8_readToldName N (x1 + 3) x2 (0 : Int32) q1.2).bind (fun q4 => if q4.1 = 0 then (some ((0 : Int32), q4.2)) else ((fX8_readCell N x2 (1 : Int32) (1 : Int32) (9 : Int32) q4.2).bind (fun q7 => if q7.1 = 0 then (some ((0 : Int32), q7.2)) else ((fX8_readCell N x2 (2 : Int32) (0 : Int32) (99 : Int32) q7.2).bind (fun q10 => if q10.1 = 0 then (some ((0 : Int32), q10.2)) else ((fX9_close x2 q10.2).bind (fun q13 => if q13.1 = 0 then (some ((0 : Int32), q13.2)) else (some ((1 : Int32), q13.2)))))))))))
set_option maxHeartbeats 4000000 in
set_option maxRecDepth 100000 in
theorem ctX8_readCan {l : Launch} {D : va_G} {ca : Nat → ClassId} {ad : Nat → Nat} (N : Nat) (x1 : Nat) (x2 : Nat) (hx1 : ly ca x1 = (0, 6)) (hx2 : ly ca x2 = (0, 9)) (hn : HNc ca) (m : Mem) (fin : (Int32 × Mem)) (hm : fX8_readCan N x1 x2 m = some fin) : CI l D ca ad yX8_readCan cwX8_readCan rmX8_readCan [.ref (ad 2), .ref (ad x1), .ref (ad x2)] m fin.1 fin.2 := by
  refine start (by decide) (Nat.le_of_ble_eq_true rfl) ?_
  intro p e s mm args below meth c H locs ls X hI hr hl
  have X : CX p s mm args meth c cX8_readCan 3 RX8 D ca ad (WA ca ad s.heap.size) := X
  have hx := X.1
  have hb := X.2.1
  have hl : lv_has ls 3 [(0, .ref (ad 2)), (1, .ref (ad x1)), (2, .ref (ad x2))] := hl
  have hm : ((fX8_openRow N x2 m).bind (fun q1 => if q1.1 = 0 then (some ((0 : Int32), q1.2)) else ((fX8_readToldName N (x1 + 3) x2 (0 : Int32) q1.2).bind (fun q4 => if q4.1 = 0 then (some ((0 : Int32), q4.2)) else ((fX8_readCell N x2 (1 : Int32) (1 : Int32) (9 : Int32) q4.2).bind (fun q7 => if q7.1 = 0 then (some ((0 : Int32), q7.2)) else ((fX8_readCell N x2 (2 : Int32) (0 : Int32) (99 : Int32) q7.2).bind (fun q10 => if q10.1 = 0 then (some ((0 : Int32), q10.2)) else ((fX9_close x2 q10.2).bind (fun q13 => if q13.1 = 0 then (some ((0 : Int32), q13.2)) else (some ((1 : Int32), q13.2)))))))))))) = some fin := hm
  refine lv_aload_n hx hb dX8_readCan_0 rfl (lv_at hl 0 rfl) ?_
  refine lv_aload_n hx hb dX8_readCan_1 rfl (lv_at hl 2 rfl) ?_
  obtain ⟨q1, h2, hm⟩ := g_b hm
  refine backI X hI (runV X hI (ctX8_openRow N x2 hx2 hn _ _ h2 _) mdX8_113 (la_2 hn) rfl ⟨rfl, rfl⟩ ⟨Nat.le_of_ble_eq_true rfl, Nat.le_of_ble_eq_true rfl⟩ rfl hl.1 rfl (Nat.le_of_ble_eq_true rfl) dX8_readCan_2) (fun H locs hI => ?_)
  refine lv_if_eq (tgt := 56) hx hb dX8_readCan_5 (by decide) (fun c3 => ?_) (fun c3 => ?_)
  · have hm := g_t c3 hm
    refine lv_iconst (v := (0 : Int32)) hx hb dX8_readCan_56 (by decide) ?_
    exact rZ X hI hr (by decide) (g_p hm).1 (g_p hm).2 dX8_readCan_57
  · have hm := g_f c3 hm
    refine lv_aload_n hx hb dX8_readCan_8 rfl (lv_at hl 0 rfl) ?_
    refine lv_aload_n hx hb dX8_readCan_9 rfl (lv_at hl 1 rfl) ?_
    refine gR X hI fdX8_67 hx1 rf6_1 dX8_readCan_10 ?_
    refine lv_aload_n hx hb dX8_readCan_13 rfl (lv_at hl 2 rfl) ?_
    refine lv_iconst (v := (0 : Int32)) hx hb dX8_readCan_14 (by decide) ?_
    obtain ⟨q4, h5, hm⟩ := g_b hm
    refine backI X hI (runV X hI (ctX8_readToldName N (x1 + 3) x2 (0 : Int32) (lf6_1 hn hx1) hx2 hn _ _ h5 _) mdX8_129 (la_2 hn) rfl ⟨rfl, rfl⟩ ⟨Nat.le_of_ble_eq_true rfl, Nat.le_of_ble_eq_true rfl⟩ rfl hl.1 rfl (Nat.le_of_ble_eq_true rfl) dX8_readCan_15) (fun H locs hI => ?_)
    refine lv_if_eq (tgt := 56) hx hb dX8_readCan_18 (by decide) (fun c6 => ?_) (fun c6 => ?_)
    · have hm := g_t c6 hm
      refine lv_iconst (v := (0 : Int32)) hx hb dX8_readCan_56 (by decide) ?_
      exact rZ X hI hr (by decide) (g_p hm).1 (g_p hm).2 dX8_readCan_57
    · have hm := g_f c6 hm
      refine lv_aload_n hx hb dX8_readCan_21 rfl (lv_at hl 0 rfl) ?_
      refine lv_aload_n hx hb dX8_readCan_22 rfl (lv_at hl 2 rfl) ?_
      refine lv_iconst (v := (1 : Int32)) hx hb dX8_readCan_23 (by decide) ?_
      refine lv_iconst (v := (1 : Int32)) hx hb dX8_readCan_24 (by decide) ?_
      refine lv_bipush (v := (9 : Int32)) hx hb dX8_readCan_25 (by decide) ?_
      obtain ⟨q7, h8, hm⟩ := g_b hm
      refine backI X hI (runV X hI (ctX8_readCell N x2 (1 : Int32) (1 : Int32) (9 : Int32) hx2 hn _ _ h8 _) mdX8_119 (la_2 hn) rfl ⟨rfl, rfl⟩ ⟨Nat.le_of_ble_eq_true rfl, Nat.le_of_ble_eq_true rfl⟩ rfl hl.1 rfl (Nat.le_of_ble_eq_true rfl) dX8_readCan_27) (fun H locs hI => ?_)
      refine lv_if_eq (tgt := 56) hx hb dX8_readCan_30 (by decide) (fun c9 => ?_) (fun c9 => ?_)
      · have hm := g_t c9 hm
        refine lv_iconst (v := (0 : Int32)) hx hb dX8_readCan_56 (by decide) ?_
        exact rZ X hI hr (by decide) (g_p hm).1 (g_p hm).2 dX8_readCan_57
      · have hm := g_f c9 hm
        refine lv_aload_n hx hb dX8_readCan_33 rfl (lv_at hl 0 rfl) ?_
        refine lv_aload_n hx hb dX8_readCan_34 rfl (lv_at hl 2 rfl) ?_
        refine lv_iconst (v := (2 : Int32)) hx hb dX8_readCan_35 (by decide) ?_
        refine lv_iconst (v := (0 : Int32)) hx hb dX8_readCan_36 (by decide) ?_
        refine lv_bipush (v := (99 : Int32)) hx hb dX8_readCan_37 (by decide) ?_
        obtain ⟨q10, h11, hm⟩ := g_b hm
        refine backI X hI (runV X hI (ctX8_readCell N x2 (2 : Int32) (0 : Int32) (99 : Int32) hx2 hn _ _ h11 _) mdX8_119 (la_2 hn) rfl ⟨rfl, rfl⟩ ⟨Nat.le_of_ble_eq_true rfl, Nat.le_of_ble_eq_true rfl⟩ rfl hl.1 rfl (Nat.le_of_ble_eq_true rfl) dX8_readCan_39) (fun H locs hI => ?_)
        refine lv_if_eq (tgt := 56) hx hb dX8_readCan_42 (by decide) (fun c12 => ?_) (fun c12 => ?_)
        · have hm := g_t c12 hm
          refine lv_iconst (v := (0 : Int32)) hx hb dX8_readCan_56 (by decide) ?_
          exact rZ X hI hr (by decide) (g_p hm).1 (g_p hm).2 dX8_readCan_57
        · have hm := g_f c12 hm
          refine lv_aload_n hx hb dX8_readCan_45 rfl (lv_at hl 2 rfl) ?_
          obtain ⟨q13, h14, hm⟩ := g_b hm
          refine backI X hI (runV X hI (ctX9_close x2 hx2 hn _ _ h14 _) mdX8_123 hx2 rfl ⟨rfl, rfl⟩ ⟨Nat.le_of_ble_eq_true rfl, Nat.le_of_ble_eq_true rfl⟩ rfl hl.1 rfl (Nat.le_of_ble_eq_true rfl) dX8_readCan_46) (fun H locs hI => ?_)
          refine lv_if_eq (tgt := 56) hx hb dX8_readCan_49 (by decide) (fun c15 => ?_) (fun c15 => ?_)
          · have hm := g_t c15 hm
            refine lv_iconst (v := (0 : Int32)) hx hb dX8_readCan_56 (by decide) ?_
            exact rZ X hI hr (by decide) (g_p hm).1 (g_p hm).2 dX8_readCan_57
          · have hm := g_f c15 hm
            refine lv_iconst (v := (1 : Int32)) hx hb dX8_readCan_52 (by decide) ?_
            refine lv_goto (tgt := 57) hx hb dX8_readCan_53 (by decide) ?_
            exact rZ X hI hr (by decide) (g_p hm).1 (g_p hm).2 dX8_readCan_57
