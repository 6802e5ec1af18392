abbrev rmX12_keepNow : Room := { frames := 1, cells := 0, slots := 0, locals := 25 }
def fX12_keepNow_45 (N : Nat)  (m : Mem) : Option Mem := (fX12_copies N ((3 : Int32) + (m.1 99 51)) (0 : Int32) m).bind (fun q2 => some (mI q2 99 51 ((q2.1 99 51) + (1 : Int32))))
set_option maxHeartbeats 4000000 in
set_option maxRecDepth 100000 in
theorem tX12_keepNow_45 (N : Nat) {l : Launch} {D : va_G} {ca : Nat → ClassId} {ad : Nat → Nat} {p : Program} {e : Env} {s : State} {mm : MethodId} {args : Array Value} {below : List Frame} {meth : Method} {c : Code}  (hn : HNr ca) (X : CX p s mm args meth c cX12_keepNow 2 RX12 D ca ad (WA ca ad s.heap.size)) (hr : meth.sig.returnType = none) (fin : Mem)  : ∀  (m : Mem) (H : Heap) (locs : List Loc) (ls : Array Slot), IW D ca ad (WA ca ad s.heap.size) s m H locs → lv_has ls 2 [(0, .ref (ad 99))] → fX12_keepNow_45 N m = some fin → W p l e rmX12_keepNow s mm args below meth c H locs 0 0 (MQ below (QV D ca ad s.heap.size fin) args s 0 0 (WA ca ad s.heap.size)) (F0 mm 45 ls []) := by
  have hx := X.1
  have hb := X.2.1
  intro m H locs ls hI hl hm
  have hm : ((fX12_copies N ((3 : Int32) + (m.1 99 51)) (0 : Int32) m).bind (fun q2 => some (mI q2 99 51 ((q2.1 99 51) + (1 : Int32))))) = some fin := hm
  refine lv_aload_n hx hb dX12_keepNow_45 rfl (lv_at hl 0 rfl) ?_
  refine lv_iconst (v := (3 : Int32)) hx hb dX12_keepNow_46 (by decide) ?_
  refine lv_aload_n hx hb dX12_keepNow_47 rfl (lv_at hl 0 rfl) ?_
  refine gI X hI fdX12_317 (la_99 hn) dX12_keepNow_48 ?_
  refine lv_iadd hx hb dX12_keepNow_51 ?_
  refine lv_iconst (v := (0 : Int32)) hx hb dX12_keepNow_52 (by decide) ?_
  obtain ⟨q2, h3, hm⟩ := g_b hm
  refine backV X hI (runV X hI (ctX12_copies N ((3 : Int32) + (m.1 99 51)) (0 : Int32)  hn _ _ h3 _) mdX12_426 (la_99 hn) rfl ⟨rfl, rfl⟩ ⟨Nat.le_of_ble_eq_true rfl, Nat.le_of_ble_eq_true rfl⟩ rfl hl.1 rfl (Nat.le_of_ble_eq_true rfl) dX12_keepNow_53) (fun H locs hI => ?_)
  refine lv_aload_n hx hb dX12_keepNow_56 rfl (lv_at hl 0 rfl) ?_
  refine lv_dup hx hb dX12_keepNow_57 rfl ?_
  refine gI X hI fdX12_317 (la_99 hn) dX12_keepNow_58 ?_
  refine lv_iconst (v := (1 : Int32)) hx hb dX12_keepNow_61 (by decide) ?_
  refine lv_iadd hx hb dX12_keepNow_62 ?_
  refine pI X hI fpX12_317 (la_99 hn) dX12_keepNow_63 (fun H locs hI => ?_)
  exact rV X hI hr (g_1 hm) dX12_keepNow_66
def fX12_keepNow_35 (N : Nat)  (m : Mem) : Option Mem := fX12_keepNow_45 N (mI m 99 51 ((m.1 99 51) - (1 : Int32)))
set_option maxHeartbeats 4000000 in
set_option maxRecDepth 100000 in
theorem tX12_keepNow_35 (N : Nat) {l : Launch} {D : va_G} {ca : Nat → ClassId} {ad : Nat → Nat} {p : Program} {e : Env} {s : State} {mm : MethodId} {args : Array Value} {below : List Frame} {meth : Method} {c : Code}  (hn : HNr ca) (X : CX p s mm args meth c cX12_keepNow 2 RX12 D ca ad (WA ca ad s.heap.size)) (hr : meth.sig.returnType = none) (fin : Mem)  : ∀  (m : Mem) (H : Heap) (locs : List Loc) (ls : Array Slot), IW D ca ad (WA ca ad s.heap.size) s m H locs → lv_has ls 2 [(0, .ref (ad 99))] → fX12_keepNow_35 N m = some fin → W p l e rmX12_keepNow s mm args below meth c H locs 0 0 (MQ below (QV D ca ad s.heap.size fin) args s 0 0 (WA ca ad s.heap.size)) (F0 mm 35 ls []) := by
  have hx := X.1
  have hb := X.2.1
  intro m H locs ls hI hl hm
  have hm : (fX12_keepNow_45 N (mI m 99 51 ((m.1 99 51) - (1 : Int32)))) = some fin := hm
  refine lv_aload_n hx hb dX12_keepNow_35 rfl (lv_at hl 0 rfl) ?_
  refine lv_dup hx hb dX12_keepNow_36 rfl ?_
  refine gI X hI fdX12_317 (la_99 hn) dX12_keepNow_37 ?_
  refine lv_iconst (v := (1 : Int32)) hx hb dX12_keepNow_40 (by decide) ?_
  refine lv_isub hx hb dX12_keepNow_41 ?_
  refine pI X hI fpX12_317 (la_99 hn) dX12_keepNow_42 (fun H locs hI => ?_)
  exact tX12_keepNow_45 N hn X hr fin  (mI m 99 51 ((m.1 99 51) - (1 : Int32))) H locs ls hI (lv_sub hl [0] rfl) hm
def fX12_keepNow_11 (N : Nat) (k35 : Mem → Option Mem) : Nat → Int32 → Mem → Option Mem
  | 0, _, _ => none
  | n + 1, x1, m => if (20 : Int32) ≤ x1 then (k35 m) else ((fX12_copies N (((3 : Int32) + x1) - (1 : Int32)) ((3 : Int32) + x1) m).bind (fun q5 => fX12_keepNow_11 N k35 n (x1 + (1 : Int32)) q5))
set_option maxHeartbeats 4000000 in
set_option maxRecDepth 100000 in
theorem tX12_keepNow_11 (N : Nat) {l : Launch} {D : va_G} {ca : Nat → ClassId} {ad : Nat → Nat} {p : Program} {e : Env} {s : State} {mm : MethodId} {args : Array Value} {below : List Frame} {meth : Method} {c : Code} {k35 : Mem → Option Mem} (hn : HNr ca) (X : CX p s mm args meth c cX12_keepNow 2 RX12 D ca ad (WA ca ad s.heap.size)) (hr : meth.sig.returnType = none) (fin : Mem) (hk35 : ∀  (m : Mem) (H : Heap) (locs : List Loc) (ls : Array Slot), IW D ca ad (WA ca ad s.heap.size) s m H locs → lv_has ls 2 [(0, .ref (ad 99))] → k35 m = some fin → W p l e rmX12_keepNow s mm args below meth c H locs 0 0 (MQ below (QV D ca ad s.heap.size fin) args s 0 0 (WA ca ad s.heap.size)) (F0 mm 35 ls [])) : ∀ (n : Nat) (x1 : Int32) (m : Mem) (H : Heap) (locs : List Loc) (ls : Array Slot), IW D ca ad (WA ca ad s.heap.size) s m H locs → lv_has ls 2 [(0, .ref (ad 99)), (1, .int x1)] → fX12_keepNow_11 N k35 n x1 m = some fin → W p l e rmX12_keepNow s mm args below meth c H locs 0 0 (MQ below (QV D ca ad s.heap.size fin) args s 0 0 (WA ca ad s.heap.size)) (F0 mm 11 ls []) := by
  have hx := X.1
  have hb := X.2.1
  intro n
  induction n with
  | zero => intro x1 m H locs ls hI hl hm
            exact absurd hm (by intro q; cases q)
  | succ n ih =>
    intro x1 m H locs ls hI hl hm
    have hm : (if (20 : Int32) ≤ x1 then (k35 m) else ((fX12_copies N (((3 : Int32) + x1) - (1 : Int32)) ((3 : Int32) + x1) m).bind (fun q5 => fX12_keepNow_11 N k35 n (x1 + (1 : Int32)) q5))) = some fin := hm
    refine lv_iload_n hx hb dX12_keepNow_11 rfl (lv_at hl 1 rfl) ?_
    refine lv_bipush (v := (20 : Int32)) hx hb dX12_keepNow_12 (by decide) ?_
    refine lv_icmp_ge (tgt := 35) hx hb dX12_keepNow_14 (by decide) (fun c4 => ?_) (fun c4 => ?_)
    · have hm := g_t c4 hm
      exact hk35 m H locs ls hI (lv_sub hl [0] rfl) hm
    · have hm := g_f c4 hm
      refine lv_aload_n hx hb dX12_keepNow_17 rfl (lv_at hl 0 rfl) ?_
      refine lv_iconst (v := (3 : Int32)) hx hb dX12_keepNow_18 (by decide) ?_
      refine lv_iload_n hx hb dX12_keepNow_19 rfl (lv_at hl 1 rfl) ?_
      refine lv_iadd hx hb dX12_keepNow_20 ?_
      refine lv_iconst (v := (1 : Int32)) hx hb dX12_keepNow_21 (by decide) ?_
      refine lv_isub hx hb dX12_keepNow_22 ?_
      refine lv_iconst (v := (3 : Int32)) hx hb dX12_keepNow_23 (by decide) ?_
      refine lv_iload_n hx hb dX12_keepNow_24 rfl (lv_at hl 1 rfl) ?_
      refine lv_iadd hx hb dX12_keepNow_25 ?_
      obtain ⟨q5, h6, hm⟩ := g_b hm
      refine backV X hI (runV X hI (ctX12_copies N (((3 : Int32) + x1) - (1 : Int32)) ((3 : Int32) + x1)  hn _ _ h6 _) mdX12_426 (la_99 hn) rfl ⟨rfl, rfl⟩ ⟨Nat.le_of_ble_eq_true rfl, Nat.le_of_ble_eq_true rfl⟩ rfl hl.1 rfl (Nat.le_of_ble_eq_true rfl) dX12_keepNow_26) (fun H locs hI => ?_)
      refine lv_iinc (v := (x1 + (1 : Int32))) (lv' := [(1, .int (x1 + (1 : Int32))), (0, .ref (ad 99))]) hx hb dX12_keepNow_29 hl (k := 1) rfl rfl (by decide) rfl (fun ls hl => ?_)
      refine lv_goto (tgt := 11) hx hb dX12_keepNow_32 (by decide) ?_
      exact ih (x1 + (1 : Int32)) q5 H locs ls hI (lv_sub hl [1, 0] rfl) hm
def fX12_keepNow (N : Nat)  (m : Mem) : Option Mem := if (m.1 99 51) = (20 : Int32) then (fX12_keepNow_11 N (fX12_keepNow_35 N) N (1 : Int32) m) else (fX12_keepNow_45 N m)
set_option maxHeartbeats 4000000 in
set_option maxRecDepth 100000 in
theorem ctX12_keepNow {l : Launch} {D : va_G} {ca : Nat → ClassId} {ad : Nat → Nat} (N : Nat)   (hn : HNr ca) (m : Mem) (fin : Mem) (hm : fX12_keepNow N m = some fin) : CV l D ca ad yX12_keepNow cwX12_keepNow rmX12_keepNow [.ref (ad 99)] m fin := by
  refine start (by decide) (Nat.le_of_ble_eq_true rfl) ?_
  intro p e s mm args below meth c H locs ls X hI hr hl
  have X : CX p s mm args meth c cX12_keepNow 2 RX12 D ca ad (WA ca ad s.heap.size) := X
  have hx := X.1
  have hb := X.2.1
  have hl : lv_has ls 2 [(0, .ref (ad 99))] := hl
  have hm : (if (m.1 99 51) = (20 : Int32) then (fX12_keepNow_11 N (fX12_keepNow_35 N) N (1 : Int32) m) else (fX12_keepNow_45 N m)) = some fin := hm
  refine lv_aload_n hx hb dX12_keepNow_0 rfl (lv_at hl 0 rfl) ?_
  refine gI X hI fdX12_317 (la_99 hn) dX12_keepNow_1 ?_
  refine lv_bipush (v := (20 : Int32)) hx hb dX12_keepNow_4 (by decide) ?_
  refine lv_icmp_ne (tgt := 45) hx hb dX12_keepNow_6 (by decide) (fun c1 => ?_) (fun c1 => ?_)
  · have hm := g_f c1 hm
    exact tX12_keepNow_45 N hn X hr fin  m H locs ls hI (lv_sub hl [0] rfl) hm
  · have hm := g_t c1 hm
    refine lv_iconst (v := (1 : Int32)) hx hb dX12_keepNow_9 (by decide) ?_
    refine lv_istore_n (lv' := [(1, .int (1 : Int32)), (0, .ref (ad 99))]) hx hb dX12_keepNow_10 rfl hl (by decide) rfl (fun ls hl => ?_)
    exact tX12_keepNow_11 N hn X hr fin (tX12_keepNow_35 N hn X hr fin ) N (1 : Int32) m H locs ls hI (lv_sub hl [1, 0] rfl) hm
abbrev rmX12_add : Room := { frames := 2, cells := 0, slots := 0, locals := 48 }
abbrev cwX12_add : Cond := .code yX12_add cX12_add 3 (some .int)
theorem cmX12_add : cwX12_add ∈ BIG := (tb7 (List.mem_of_getElem? (i := 201) rfl) rfl)
def fX12_add (N : Nat) (x1 : Int32) (x2 : Int32) (m : Mem) : Option (Int32 × Mem) := (fX12_isTub x1 (mI m 99 0 (0 : Int32))).bind (fun q1 => if q1 = 0 then (some ((-1 : Int32), (mI m 99 0 (0 : Int32)))) else (if x2 < (1 : Int32) then (some ((-1 : Int32), (mI m 99 0 (0 : Int32)))) else (if x2 ≤ (60 : Int32) then (if x1 < 0 ∨ 138 ≤ x1.toNatClampNeg then none else (if (((mI m 99 0 (0 : Int32)).1 126 x1.toNatClampNeg) + x2) ≤ (999 : Int32) then ((fX12_keepNow N (mI m 99 0 (0 : Int32))).bind (fun q8 => (fX12_mixes (0 : Int32) x1 x2 (990 : Int32) q8).bind (fun q10 => if x1 < 0 ∨ 138 ≤ x1.toNatClampNeg then none else (some ((q10.2.1 127 x1.toNatClampNeg), q10.2))))) else (some ((-2 : Int32), (mI m 99 0 (0 : Int32)))))) else (some ((-1 : Int32), (mI m 99 0 (0 : Int32)))))))
set_option maxHeartbeats 4000000 in
set_option maxRecDepth 100000 in
theorem ctX12_add {l : Launch} {D : va_G} {ca : Nat → ClassId} {ad : Nat → Nat} (N : Nat) (x1 : Int32) (x2 : Int32)  (hn : HNr ca) (m : Mem) (fin : (Int32 × Mem)) (hm : fX12_add N x1 x2 m = some fin) : CI l D ca ad yX12_add cwX12_add rmX12_add [.ref (ad 99), .int x1, .int x2] m fin.1 fin.2 := by
  refine start (by decide) (Nat.le_of_ble_eq_true rfl) ?_
  intro p e s mm args below meth c H locs ls X hI hr hl
  have X : CX p s mm args meth c cX12_add 3 RX12 D ca ad (WA ca ad s.heap.size) := X
  have hx := X.1
  have hb := X.2.1
  have hl : lv_has ls 3 [(0, .ref (ad 99)), (1, .int x1), (2, .int x2)] := hl
  have hm : ((fX12_isTub x1 (mI m 99 0 (0 : Int32))).bind (fun q1 => if q1 = 0 then (some ((-1 : Int32), (mI m 99 0 (0 : Int32)))) else (if x2 < (1 : Int32) then (some ((-1 : Int32), (mI m 99 0 (0 : Int32)))) else (if x2 ≤ (60 : Int32) then (if x1 < 0 ∨ 138 ≤ x1.toNatClampNeg then none else (if (((mI m 99 0 (0 : Int32)).1 126 x1.toNatClampNeg) + x2) ≤ (999 : Int32) then ((fX12_keepNow N (mI m 99 0 (0 : Int32))).bind (fun q8 => (fX12_mixes (0 : Int32) x1 x2 (990 : Int32) q8).bind (fun q10 => if x1 < 0 ∨ 138 ≤ x1.toNatClampNeg then none else (some ((q10.2.1 127 x1.toNatClampNeg), q10.2))))) else (some ((-2 : Int32), (mI m 99 0 (0 : Int32)))))) else (some ((-1 : Int32), (mI m 99 0 (0 : Int32)))))))) = some fin := hm
  refine lv_aload_n hx hb dX12_add_0 rfl (lv_at hl 0 rfl) ?_
  refine lv_iconst (v := (0 : Int32)) hx hb dX12_add_1 (by decide) ?_
  refine pI X hI fpX12_154 (la_99 hn) dX12_add_2 (fun H locs hI => ?_)
  refine lv_aload_n hx hb dX12_add_5 rfl (lv_at hl 0 rfl) ?_
  refine lv_iload_n hx hb dX12_add_6 rfl (lv_at hl 1 rfl) ?_
  obtain ⟨q1, h2, hm⟩ := g_b hm
  refine backI X hI (runV X hI (ctX12_isTub x1  hn _ _ h2 _) mdX12_413 (la_99 hn) rfl ⟨rfl, rfl⟩ ⟨Nat.le_of_ble_eq_true rfl, Nat.le_of_ble_eq_true rfl⟩ rfl hl.1 rfl (Nat.le_of_ble_eq_true rfl) dX12_add_7) (fun H locs hI => ?_)
  refine lv_if_eq (tgt := 24) hx hb dX12_add_10 (by decide) (fun c3 => ?_) (fun c3 => ?_)
  · have hm := g_t c3 hm
    refine lv_iconst (v := (-1 : Int32)) hx hb dX12_add_24 (by decide) ?_
    exact rI X hI hr (g_p hm).1 (g_p hm).2 dX12_add_25
  · have hm := g_f c3 hm
    refine lv_iload_n hx hb dX12_add_13 rfl (lv_at hl 2 rfl) ?_
    refine lv_iconst (v := (1 : Int32)) hx hb dX12_add_14 (by decide) ?_
    refine lv_icmp_lt (tgt := 24) hx hb dX12_add_15 (by decide) (fun c4 => ?_) (fun c4 => ?_)
    · have hm := g_t c4 hm
      refine lv_iconst (v := (-1 : Int32)) hx hb dX12_add_24 (by decide) ?_
      exact rI X hI hr (g_p hm).1 (g_p hm).2 dX12_add_25
    · have hm := g_f c4 hm
      refine lv_iload_n hx hb dX12_add_18 rfl (lv_at hl 2 rfl) ?_
      refine lv_bipush (v := (60 : Int32)) hx hb dX12_add_19 (by decide) ?_
      refine lv_icmp_le (tgt := 26) hx hb dX12_add_21 (by decide) (fun c5 => ?_) (fun c5 => ?_)
      · have hm := g_t c5 hm
        refine lv_aload_n hx hb dX12_add_26 rfl (lv_at hl 0 rfl) ?_
        refine gR X hI fdX12_93 (la_99 hn) rf12_42 dX12_add_27 ?_
        refine lv_iload_n hx hb dX12_add_30 rfl (lv_at hl 1 rfl) ?_
        obtain ⟨g6, hm⟩ := g_no hm
        refine aI X hI (la_126 hn) g6 dX12_add_31 ?_
        refine lv_iload_n hx hb dX12_add_32 rfl (lv_at hl 2 rfl) ?_
        refine lv_iadd hx hb dX12_add_33 ?_
        refine lv_sipush (v := (999 : Int32)) hx hb dX12_add_34 (by decide) ?_
        refine lv_icmp_le (tgt := 43) hx hb dX12_add_37 (by decide) (fun c7 => ?_) (fun c7 => ?_)
        · have hm := g_t c7 hm
          refine lv_aload_n hx hb dX12_add_43 rfl (lv_at hl 0 rfl) ?_
          obtain ⟨q8, h9, hm⟩ := g_b hm
          refine backV X hI (runV X hI (ctX12_keepNow N  hn _ _ h9 _) mdX12_429 (la_99 hn) rfl ⟨rfl, rfl⟩ ⟨Nat.le_of_ble_eq_true rfl, Nat.le_of_ble_eq_true rfl⟩ rfl hl.1 rfl (Nat.le_of_ble_eq_true rfl) dX12_add_44) (fun H locs hI => ?_)
          refine lv_aload_n hx hb dX12_add_47 rfl (lv_at hl 0 rfl) ?_
          refine lv_iconst (v := (0 : Int32)) hx hb dX12_add_48 (by decide) ?_
          refine lv_iload_n hx hb dX12_add_49 rfl (lv_at hl 1 rfl) ?_
          refine lv_iload_n hx hb dX12_add_50 rfl (lv_at hl 2 rfl) ?_
          refine lv_sipush (v := (990 : Int32)) hx hb dX12_add_51 (by decide) ?_
          obtain ⟨q10, h11, hm⟩ := g_b hm
          refine backI X hI (runV X hI (ctX12_mixes (0 : Int32) x1 x2 (990 : Int32)  hn _ _ h11 _) mdX12_366 (la_99 hn) rfl ⟨rfl, rfl⟩ ⟨Nat.le_of_ble_eq_true rfl, Nat.le_of_ble_eq_true rfl⟩ rfl hl.1 rfl (Nat.le_of_ble_eq_true rfl) dX12_add_54) (fun H locs hI => ?_)
          refine lv_pop hx hb dX12_add_57 rfl ?_
          refine lv_aload_n hx hb dX12_add_58 rfl (lv_at hl 0 rfl) ?_
          refine gR X hI fdX12_96 (la_99 hn) rf12_43 dX12_add_59 ?_
          refine lv_iload_n hx hb dX12_add_62 rfl (lv_at hl 1 rfl) ?_
          obtain ⟨g12, hm⟩ := g_no hm
          refine aI X hI (la_127 hn) g12 dX12_add_63 ?_
          exact rI X hI hr (g_p hm).1 (g_p hm).2 dX12_add_64
        · have hm := g_f c7 hm
          refine lv_bipush (v := (-2 : Int32)) hx hb dX12_add_40 (by decide) ?_
          exact rI X hI hr (g_p hm).1 (g_p hm).2 dX12_add_42
      · have hm := g_f c5 hm
        refine lv_iconst (v := (-1 : Int32)) hx hb dX12_add_24 (by decide) ?_
        exact rI X hI hr (g_p hm).1 (g_p hm).2 dX12_add_25
abbrev rmX12_pour : Room := { frames := 2, cells := 0, slots := 0, locals := 48 }
abbrev cwX12_pour : Cond := .code yX12_pour cX12_pour 4 (some .int)
theorem cmX12_pour : cwX12_pour ∈ BIG := (tb7 (List.mem_of_getElem? (i := 220) rfl) rfl)
def fX12_pour (N : Nat) (x1 : Int32) (x2 : Int32) (x3 : Int32) (m : Mem) : Option (Int32 × Mem) := (fX12_isTub x1 (mI m 99 0 (0 : Int32))).bind (fun q1 => if q1 = 0 then (some ((-1 : Int32), (mI m 99 0 (0 : Int32)))) else ((fX12_isTub x2 (mI m 99 0 (0 : Int32))).bind (fun q4 => if q4 = 0 then (some ((-1 : Int32), (mI m 99 0 (0 : Int32)))) else (if x1 = x2 then (some ((-1 : Int32), (mI m 99 0 (0 : Int32)))) else (if x3 < (1 : Int32) then (some ((-1 : Int32), (mI m 99 0 (0 : Int32)))) else (if x3 ≤ (60 : Int32) then (if x1 < 0 ∨ 138 ≤ x1.toNatClampNeg then none else (if ((mI m 99 0 (0 : Int32)).1 126 x1.toNatClampNeg) ≤ x3 then (some ((-2 : Int32), (mI m 99 0 (0 : Int32)))) else (if x2 < 0 ∨ 138 ≤ x2.toNatClampNeg then none else (if (((mI m 99 0 (0 : Int32)).1 126 x2.toNatClampNeg) + x3) ≤ (999 : Int32) then ((fX12_keepNow N (mI m 99 0 (0 : Int32))).bind (fun q14 => if x1 < 0 ∨ 138 ≤ x1.toNatClampNeg then none else ((fX12_mixes (0 : Int32) x2 x3 (q14.1 127 x1.toNatClampNeg) q14).bind (fun q17 => if x1 < 0 ∨ 138 ≤ x1.toNatClampNeg then none else (if x1 < 0 ∨ 138 ≤ x1.toNatClampNeg then none else (if x2 < 0 ∨ 138 ≤ x2.toNatClampNeg then none else (some (((mI q17.2 126 x1.toNatClampNeg ((q17.2.1 126 x1.toNatClampNeg) - x3)).1 127 x2.toNatClampNeg), (mI q17.2 126 x1.toNatClampNeg ((q17.2.1 126 x1.toNatClampNeg) - x3)))))))))) else (some ((-2 : Int32), (mI m 99 0 (0 : Int32)))))))) else (some ((-1 : Int32), (mI m 99 0 (0 : Int32))))))))))
set_option maxHeartbeats 4000000 in
set_option maxRecDepth 100000 in
theorem ctX12_pour {l : Launch} {D : va_G} {ca : Nat → ClassId} {ad : Nat → Nat} (N : Nat) (x1 : Int32) (x2 : Int32) (x3 : Int32)  (hn : HNr ca) (m : Mem) (fin : (Int32 × Mem)) (hm : fX12_pour N x1 x2 x3 m = some fin) : CI l D ca ad yX12_pour cwX12_pour rmX12_pour [.ref (ad 99), .int x1, .int x2, .int x3] m fin.1 fin.2 := by
  refine start (by decide) (Nat.le_of_ble_eq_true rfl) ?_
  intro p e s mm args below meth c H locs ls X hI hr hl
  have X : CX p s mm args meth c cX12_pour 4 RX12 D ca ad (WA ca ad s.heap.size) := X
  have hx := X.1
  have hb := X.2.1
  have hl : lv_has ls 4 [(0, .ref (ad 99)), (1, .int x1), (2, .int x2), (3, .int x3)] := hl
  have hm : ((fX12_isTub x1 (mI m 99 0 (0 : Int32))).bind (fun q1 => if q1 = 0 then (some ((-1 : Int32), (mI m 99 0 (0 : Int32)))) else ((fX12_isTub x2 (mI m 99 0 (0 : Int32))).bind (fun q4 => if q4 = 0 then (some ((-1 : Int32), (mI m 99 0 (0 : Int32)))) else (if x1 = x2 then (some ((-1 : Int32), (mI m 99 0 (0 : Int32)))) else (if x3 < (1 : Int32) then (some ((-1 : Int32), (mI m 99 0 (0 : Int32)))) else (if x3 ≤ (60 : Int32) then (if x1 < 0 ∨ 138 ≤ x1.toNatClampNeg then none else (if ((mI m 99 0 (0 : Int32)).1 126 x1.toNatClampNeg) ≤ x3 then (some ((-2 : Int32), (mI m 99 0 (0 : Int32)))) else (if x2 < 0 ∨ 138 ≤ x2.toNatClampNeg then none else (if (((mI m 99 0 (0 : Int32)).1 126 x2.toNatClampNeg) + x3) ≤ (999 : Int32) then ((fX12_keepNow N (mI m 99 0 (0 : Int32))).bind (fun q14 => if x1 < 0 ∨ 138 ≤ x1.toNatClampNeg then none else ((fX12_mixes (0 : Int32) x2 x3 (q14.1 127 x1.toNatClampNeg) q14).bind (fun q17 => if x1 < 0 ∨ 138 ≤ x1.toNatClampNeg then none else (if x1 < 0 ∨ 138 ≤ x1.toNatClampNeg then none else (if x2 < 0 ∨ 138 ≤ x2.toNatClampNeg then none else (some (((mI q17.2 126 x1.toNatClampNeg ((q17.2.1 126 x1.toNatClampNeg) - x3)).1 127 x2.toNatClampNeg), (mI q17.2 126 x1.toNatClampNeg ((q17.2.1 126 x1.toNatClampNeg) - x3)))))))))) else (some ((-2 : Int32), (mI m 99 0 (0 : Int32)))))))) else (some ((-1 : Int32), (mI m 99 0 (0 : Int32))))))))))) = some fin := hm
  refine lv_aload_n hx hb dX12_pour_0 rfl (lv_at hl 0 rfl) ?_
  refine lv_iconst (v := (0 : Int32)) hx hb dX12_pour_1 (by decide) ?_
  refine pI X hI fpX12_154 (la_99 hn) dX12_pour_2 (fun H locs hI => ?_)
  refine lv_aload_n hx hb dX12_pour_5 rfl (lv_at hl 0 rfl) ?_
  refine lv_iload_n hx hb dX12_pour_6 rfl (lv_at hl 1 rfl) ?_
  obtain ⟨q1, h2, hm⟩ := g_b hm
  refine backI X hI (runV X hI (ctX12_isTub x1  hn _ _ h2 _) mdX12_413 (la_99 hn) rfl ⟨rfl, rfl⟩ ⟨Nat.le_of_ble_eq_true rfl, Nat.le_of_ble_eq_true rfl⟩ rfl hl.1 rfl (Nat.le_of_ble_eq_true rfl) dX12_pour_7) (fun H locs hI => ?_)
  refine lv_if_eq (tgt := 37) hx hb dX12_pour_10 (by decide) (fun c3 => ?_) (fun c3 => ?_)
  · have hm := g_t c3 hm
    refine lv_iconst (v := (-1 : Int32)) hx hb dX12_pour_37 (by decide) ?_
    exact rI X hI hr (g_p hm).1 (g_p hm).2 dX12_pour_38
  · have hm := g_f c3 hm
    refine lv_aload_n hx hb dX12_pour_13 rfl (lv_at hl 0 rfl) ?_
    refine lv_iload_n hx hb dX12_pour_14 rfl (lv_at hl 2 rfl) ?_
    obtain ⟨q4, h5, hm⟩ := g_b hm
    refine backI X hI (runV X hI (ctX12_isTub x2  hn _ _ h5 _) mdX12_413 (la_99 hn) rfl ⟨rfl, rfl⟩ ⟨Nat.le_of_ble_eq_true rfl, Nat.le_of_ble_eq_true rfl⟩ rfl hl.1 rfl (Nat.le_of_ble_eq_true rfl) dX12_pour_15) (fun H locs hI => ?_)
    refine lv_if_eq (tgt := 37) hx hb dX12_pour_18 (by decide) (fun c6 => ?_) (fun c6 => ?_)
    · have hm := g_t c6 hm
      refine lv_iconst (v := (-1 : Int32)) hx hb dX12_pour_37 (by decide) ?_
      exact rI X hI hr (g_p hm).1 (g_p hm).2 dX12_pour_38
    · have hm := g_f c6 hm
      refine lv_iload_n hx hb dX12_pour_21 rfl (lv_at hl 1 rfl) ?_
      refine lv_iload_n hx hb dX12_pour_22 rfl (lv_at hl 2 rfl) ?_
      refine lv_icmp_eq (tgt := 37) hx hb dX12_pour_23 (by decide) (fun c7 => ?_) (fun c7 => ?_)
      · have hm := g_t c7 hm
        refine lv_iconst (v := (-1 : Int32)) hx hb dX12_pour_37 (by decide) ?_
        exact rI X hI hr (g_p hm).1 (g_p hm).2 dX12_pour_38
      · have hm := g_f c7 hm
        refine lv_iload_n hx hb dX12_pour_26 rfl (lv_at hl 3 rfl) ?_
        refine lv_iconst (v := (1 : Int32)) hx hb dX12_pour_27 (by decide) ?_
        refine lv_icmp_lt (tgt := 37) hx hb dX12_pour_28 (by decide) (fun c8 => ?_) (fun c8 => ?_)
        · have hm := g_t c8 hm
          refine lv_iconst (v := (-1 : Int32)) hx hb dX12_pour_37 (by decide) ?_
          exact rI X hI hr (g_p hm).1 (g_p hm).2 dX12_pour_38
        · have hm := g_f c8 hm
          refine lv_iload_n hx hb dX12_pour_31 rfl (lv_at hl 3 rfl) ?_
          refine lv_bipush (v := (60 : Int32)) hx hb dX12_pour_32 (by decide) ?_
          refine lv_icmp_le (tgt := 39) hx hb dX12_pour_34 (by decide) (fun c9 => ?_) (fun c9 => ?_)
          · have hm := g_t c9 hm
            refine lv_aload_n hx hb dX12_pour_39 rfl (lv_at hl 0 rfl) ?_
            refine gR X hI fdX12_93 (la_99 hn) rf12_42 dX12_pour_40 ?_
            refine lv_iload_n hx hb dX12_pour_43 rfl (lv_at hl 1 rfl) ?_
            obtain ⟨g10, hm⟩ := g_no hm
            refine aI X hI (la_126 hn) g10 dX12_pour_44 ?_
            refine lv_iload_n hx hb dX12_pour_45 rfl (lv_at hl 3 rfl) ?_
            refine lv_icmp_le (tgt := 63) hx hb dX12_pour_46 (by decide) (fun c11 => ?_) (fun c11 => ?_)
            · have hm := g_t c11 hm
              refine lv_bipush (v := (-2 : Int32)) hx hb dX12_pour_63 (by decide) ?_
              exact rI X hI hr (g_p hm).1 (g_p hm).2 dX12_pour_65
            · have hm := g_f c11 hm
              refine lv_aload_n hx hb dX12_pour_49 rfl (lv_at hl 0 rfl) ?_
              refine gR X hI fdX12_93 (la_99 hn) rf12_42 dX12_pour_50 ?_
              refine lv_iload_n hx hb dX12_pour_53 rfl (lv_at hl 2 rfl) ?_
              obtain ⟨g12, hm⟩ := g_no hm
              refine aI X hI (la_126 hn) g12 dX12_pour_54 ?_
              refine lv_iload_n hx hb dX12_pour_55 rfl (lv_at hl 3 rfl) ?_
              refine lv_iadd hx hb dX12_pour_56 ?_
              refine lv_sipush (v := (999 : Int32)) hx hb dX12_pour_57 (by decide) ?_
              refine lv_icmp_le (tgt := 66) hx hb dX12_pour_60 (by decide) (fun c13 => ?_) (fun c13 => ?_)
              · have hm := g_t c13 hm
                refine lv_aload_n hx hb dX12_pour_66 rfl (lv_at hl 0 rfl) ?_
                obtain ⟨q14, h15, hm⟩ := g_b hm
                refine backV X hI (runV X hI (ctX12_keepNow N  hn _ _ h15 _) mdX12_429 (la_99 hn) rfl ⟨rfl, rfl⟩ ⟨Nat.le_of_ble_eq_true rfl, Nat.le_of_ble_eq_true rfl⟩ rfl hl.1 rfl (Nat.le_of_ble_eq_true rfl) dX12_pour_67) (fun H locs hI => ?_)
                refine lv_aload_n hx hb dX12_pour_70 rfl (lv_at hl 0 rfl) ?_
                refine lv_iconst (v := (0 : Int32)) hx hb dX12_pour_71 (by decide) ?_
                refine lv_iload_n hx hb dX12_pour_72 rfl (lv_at hl 2 rfl) ?_
                refine lv_iload_n hx hb dX12_pour_73 rfl (lv_at hl 3 rfl) ?_
                refine lv_aload_n hx hb dX12_pour_74 rfl (lv_at hl 0 rfl) ?_
                refine gR X hI fdX12_96 (la_99 hn) rf12_43 dX12_pour_75 ?_
                refine lv_iload_n hx hb dX12_pour_78 rfl (lv_at hl 1 rfl) ?_
                obtain ⟨g16, hm⟩ := g_no hm
                refine aI X hI (la_127 hn) g16 dX12_pour_79 ?_
                obtain ⟨q17, h18, hm⟩ := g_b hm
                refine backI X hI (runV X hI (ctX12_mixes (0 : Int32) x2 x3 (q14.1 127 x1.toNatClampNeg)  hn _ _ h18 _) mdX12_366 (la_99 hn) rfl ⟨rfl, rfl⟩ ⟨Nat.le_of_ble_eq_true rfl, Nat.le_of_ble_eq_true rfl⟩ rfl hl.1 rfl (Nat.le_of_ble_eq_true rfl) dX12_pour_80) (fun H locs hI => ?_)
                refine lv_pop hx hb dX12_pour_83 rfl ?_
                refine lv_aload_n hx hb dX12_pour_84 rfl (lv_at hl 0 rfl) ?_
                refine gR X hI fdX12_93 (la_99 hn) rf12_42 dX12_pour_85 ?_
                refine lv_iload_n hx hb dX12_pour_88 rfl (lv_at hl 1 rfl) ?_
                refine lv_dup2_11 hx hb dX12_pour_89 rfl rfl ?_
                obtain ⟨g19, hm⟩ := g_no hm
                refine aI X hI (la_126 hn) g19 dX12_pour_90 ?_
                refine lv_iload_n hx hb dX12_pour_91 rfl (lv_at hl 3 rfl) ?_
                refine lv_isub hx hb dX12_pour_92 ?_
                obtain ⟨g20, hm⟩ := g_no hm
                refine sI X hI (la_126 hn) g20 dX12_pour_93 (fun H locs hI => ?_)
                refine lv_aload_n hx hb dX12_pour_94 rfl (lv_at hl 0 rfl) ?_
                refine gR X hI fdX12_96 (la_99 hn) rf12_43 dX12_pour_95 ?_
                refine lv_iload_n hx hb dX12_pour_98 rfl (lv_at hl 2 rfl) ?_
                obtain ⟨g21, hm⟩ := g_no hm
                refine aI X hI (la_127 hn) g21 dX12_pour_99 ?_
                exact rI X hI hr (g_p hm).1 (g_p hm).2 dX12_pour_100
              · have hm := g_f c13 hm
                refine lv_bipush (v := (-2 : Int32)) hx hb dX12_pour_63 (by decide) ?_
                exact rI X hI hr (g_p hm).1 (g_p hm).2 dX12_pour_65
          · have hm := g_f c9 hm
            refine lv_iconst (v := (-1 : Int32)) hx hb dX12_pour_37 (by decide) ?_
            exact rI X hI hr (g_p hm).1 (g_p hm).2 dX12_pour_38
abbrev rmX12_sit : Room := { frames := 2, cells := 0, slots := 0, locals := 46 }
abbrev cwX12_sit : Cond := .code yX12_sit cX12_sit 3 (some .boolean)
theorem cmX12_sit : cwX12_sit ∈ BIG := (tb7 (List.mem_of_getElem? (i := 224) rfl) rfl)
def fX12_sit (N : Nat) (x1 : Int32) (x2 : Int32) (m : Mem) : Option (Int32 × Mem) := (fX12_isKnight x1 (mI m 99 0 (0 : Int32))).bind (fun q1 => if q1 = 0 then (some ((0 : Int32), (mI m 99 0 (0 : Int32)))) else ((fX12_isTub x2 (mI m 99 0 (0 : Int32))).bind (fun q4 => if q4 = 0 then (some ((0 : Int32), (mI m 99 0 (0 : Int32)))) else ((fX12_whoIn N (0 : Int32) x2 (mI m 99 0 (0 : Int32))).bind (fun q7 => if q7 = (-1 : Int32) then ((fX12_keepNow N (mI m 99 0 (0 : Int32))).bind (fun q10 => (fX12_sits (0 : Int32) x1 x2 q10).bind (fun q12 => some ((1 : Int32), q12)))) else (some ((0 : Int32), (mI m 99 0 (0 : Int32)))))))))
set_option maxHeartbeats 4000000 in
set_option maxRecDepth 100000 in
theorem ctX12_sit {l : Launch} {D : va_G} {ca : Nat → ClassId} {ad : Nat → Nat} (N : Nat) (x1 : Int32) (x2 : Int32)  (hn : HNr ca) (m : Mem) (fin : (Int32 × Mem)) (hm : fX12_sit N x1 x2 m = some fin) : CI l D ca ad yX12_sit cwX12_sit rmX12_sit [.ref (ad 99), .int x1, .int x2] m fin.1 fin.2 := by
  refine start (by decide) (Nat.le_of_ble_eq_true rfl) ?_
  intro p e s mm args below meth c H locs ls X hI hr hl
  have X : CX p s mm args meth c cX12_sit 3 RX12 D ca ad (WA ca ad s.heap.size) := X
  have hx := X.1
  have hb := X.2.1
  have hl : lv_has ls 3 [(0, .ref (ad 99)), (1, .int x1), (2, .int x2)] := hl
  have hm : ((fX12_isKnight x1 (mI m 99 0 (0 : Int32))).bind (fun q1 => if q1 = 0 then (some ((0 : Int32), (mI m 99 0 (0 : Int32)))) else ((fX12_isTub x2 (mI m 99 0 (0 : Int32))).bind (fun q4 => if q4 = 0 then (some ((0 : Int32), (mI m 99 0 (0 : Int32)))) else ((fX12_whoIn N (0 : Int32) x2 (mI m 99 0 (0 : Int32))).bind (fun q7 => if q7 = (-1 : Int32) then ((fX12_keepNow N (mI m 99 0 (0 : Int32))).bind (fun q10 => (fX12_sits (0 : Int32) x1 x2 q10).bind (fun q12 => some ((1 : Int32), q12)))) else (some ((0 : Int32), (mI m 99 0 (0 : Int32)))))))))) = some fin := hm
  refine lv_aload_n hx hb dX12_sit_0 rfl (lv_at hl 0 rfl) ?_
  refine lv_iconst (v := (0 : Int32)) hx hb dX12_sit_1 (by decide) ?_
  refine pI X hI fpX12_154 (la_99 hn) dX12_sit_2 (fun H locs hI => ?_)
  refine lv_aload_n hx hb dX12_sit_5 rfl (lv_at hl 0 rfl) ?_
  refine lv_iload_n hx hb dX12_sit_6 rfl (lv_at hl 1 rfl) ?_
  obtain ⟨q1, h2, hm⟩ := g_b hm
  refine backI X hI (runV X hI (ctX12_isKnight x1  hn _ _ h2 _) mdX12_419 (la_99 hn) rfl ⟨rfl, rfl⟩ ⟨Nat.le_of_ble_eq_true rfl, Nat.le_of_ble_eq_true rfl⟩ rfl hl.1 rfl (Nat.le_of_ble_eq_true rfl) dX12_sit_7) (fun H locs hI => ?_)
  refine lv_if_eq (tgt := 31) hx hb dX12_sit_10 (by decide) (fun c3 => ?_) (fun c3 => ?_)
  · have hm := g_t c3 hm
    refine lv_iconst (v := (0 : Int32)) hx hb dX12_sit_31 (by decide) ?_
    exact rZ X hI hr (by decide) (g_p hm).1 (g_p hm).2 dX12_sit_32
  · have hm := g_f c3 hm
    refine lv_aload_n hx hb dX12_sit_13 rfl (lv_at hl 0 rfl) ?_
    refine lv_iload_n hx hb dX12_sit_14 rfl (lv_at hl 2 rfl) ?_
    obtain ⟨q4, h5, hm⟩ := g_b hm
    refine backI X hI (runV X hI (ctX12_isTub x2  hn _ _ h5 _) mdX12_413 (la_99 hn) rfl ⟨rfl, rfl⟩ ⟨Nat.le_of_ble_eq_true rfl, Nat.le_of_ble_eq_true rfl⟩ rfl hl.1 rfl (Nat.le_of_ble_eq_true rfl) dX12_sit_15) (fun H locs hI => ?_)
    refine lv_if_eq (tgt := 31) hx hb dX12_sit_18 (by decide) (fun c6 => ?_) (fun c6 => ?_)
    · have hm := g_t c6 hm
      refine lv_iconst (v := (0 : Int32)) hx hb dX12_sit_31 (by decide) ?_
      exact rZ X hI hr (by decide) (g_p hm).1 (g_p hm).2 dX12_sit_32
    · have hm := g_f c6 hm
      refine lv_aload_n hx hb dX12_sit_21 rfl (lv_at hl 0 rfl) ?_
      refine lv_iconst (v := (0 : Int32)) hx hb dX12_sit_22 (by decide) ?_
      refine lv_iload_n hx hb dX12_sit_23 rfl (lv_at hl 2 rfl) ?_
      obtain ⟨q7, h8, hm⟩ := g_b hm
      refine backI X hI (runV X hI (ctX12_whoIn N (0 : Int32) x2  hn _ _ h8 _) mdX12_398 (la_99 hn) rfl ⟨rfl, rfl⟩ ⟨Nat.le_of_ble_eq_true rfl, Nat.le_of_ble_eq_true rfl⟩ rfl hl.1 rfl (Nat.le_of_ble_eq_true rfl) dX12_sit_24) (fun H locs hI => ?_)
      refine lv_iconst (v := (-1 : Int32)) hx hb dX12_sit_27 (by decide) ?_
      refine lv_icmp_eq (tgt := 33) hx hb dX12_sit_28 (by decide) (fun c9 => ?_) (fun c9 => ?_)
      · have hm := g_t c9 hm
        refine lv_aload_n hx hb dX12_sit_33 rfl (lv_at hl 0 rfl) ?_
        obtain ⟨q10, h11, hm⟩ := g_b hm
        refine backV X hI (runV X hI (ctX12_keepNow N  hn _ _ h11 _) mdX12_429 (la_99 hn) rfl ⟨rfl, rfl⟩ ⟨Nat.le_of_ble_eq_true rfl, Nat.le_of_ble_eq_true rfl⟩ rfl hl.1 rfl (Nat.le_of_ble_eq_true rfl) dX12_sit_34) (fun H locs hI => ?_)
        refine lv_aload_n hx hb dX12_sit_37 rfl (lv_at hl 0 rfl) ?_
        refine lv_iconst (v := (0 : Int32)) hx hb dX12_sit_38 (by decide) ?_
        refine lv_iload_n hx hb dX12_sit_39 rfl (lv_at hl 1 rfl) ?_
        refine lv_iload_n hx hb dX12_sit_40 rfl (lv_at hl 2 rfl) ?_
        obtain ⟨q12, h13, hm⟩ := g_b hm
        refine backV X hI (runV X hI (ctX12_sits (0 : Int32) x1 x2  hn _ _ h13 _) mdX12_401 (la_99 hn) rfl ⟨rfl, rfl⟩ ⟨Nat.le_of_ble_eq_true rfl, Nat.le_of_ble_eq_true rfl⟩ rfl hl.1 rfl (Nat.le_of_ble_eq_true rfl) dX12_sit_41) (fun H locs hI => ?_)
        refine lv_iconst (v := (1 : Int32)) hx hb dX12_sit_44 (by decide) ?_
        exact rZ X hI hr (by decide) (g_p hm).1 (g_p hm).2 dX12_sit_45
      · have hm := g_f c9 hm
        refine lv_iconst (v := (0 : Int32)) hx hb dX12_sit_31 (by decide) ?_
        exact rZ X hI hr (by decide) (g_p hm).1 (g_p hm).2 dX12_sit_32
abbrev rmX12_rise : Room := { frames := 2, cells := 0, slots := 0, locals := 46 }
abbrev cwX12_rise : Cond := .code yX12_rise cX12_rise 2 (some .boolean)
theorem cmX12_rise : cwX12_rise ∈ BIG := (tb7 (List.mem_of_getElem? (i := 232) rfl) rfl)
def fX12_rise (N : Nat) (x1 : Int32) (m : Mem) : Option (Int32 × Mem) := (fX12_isKnight x1 (mI m 99 0 (0 : Int32))).bind (fun q1 => if q1 = 0 then (some ((0 : Int32), (mI m 99 0 (0 : Int32)))) else (if x1 < 0 ∨ 138 ≤ x1.toNatClampNeg then none else (if ((mI m 99 0 (0 : Int32)).1 129 x1.toNatClampNeg) = (-1 : Int32) then (some ((0 : Int32), (mI m 99 0 (0 : Int32)))) else ((fX12_keepNow N (mI m 99 0 (0 : Int32))).bind (fun q6 => (fX12_leaves (0 : Int32) x1 q6).bind (fun q8 => some ((1 : Int32), q8)))))))
set_option maxHeartbeats 4000000 in
set_option maxRecDepth 100000 in
theorem ctX12_rise {l : Launch} {D : va_G} {ca : Nat → ClassId} {ad : Nat → Nat} (N : Nat) (x1 : Int32)  (hn : HNr ca) (m : Mem) (fin : (Int32 × Mem)) (hm : fX12_rise N x1 m = some fin) : CI l D ca ad yX12_rise cwX12_rise rmX12_rise [.ref (ad 99), .int x1] m fin.1 fin.2 := by
  refine start (by decide) (Nat.le_of_ble_eq_true rfl) ?_
  intro p e s mm args below meth c H locs ls X hI hr hl
  have X : CX p s mm args meth c cX12_rise 2 RX12 D ca ad (WA ca ad s.heap.size) := X
  have hx := X.1
  have hb := X.2.1
  have hl : lv_has ls 2 [(0, .ref (ad 99)), (1, .int x1)] := hl
  have hm : ((fX12_isKnight x1 (mI m 99 0 (0 : Int32))).bind (fun q1 => if q1 = 0 then (some ((0 : Int32), (mI m 99 0 (0 : Int32)))) else (if x1 < 0 ∨ 138 ≤ x1.toNatClampNeg then none else (if ((mI m 99 0 (0 : Int32)).1 129 x1.toNatClampNeg) = (-1 : Int32) then (some ((0 : Int32), (mI m 99 0 (0 : Int32)))) else ((fX12_keepNow N (mI m 99 0 (0 : Int32))).bind (fun q6 => (fX12_leaves (0 : Int32) x1 q6).bind (fun q8 => some ((1 : Int32), q8)))))))) = some fin := hm
  refine lv_aload_n hx hb dX12_rise_0 rfl (lv_at hl 0 rfl) ?_
  refine lv_iconst (v := (0 : Int32)) hx hb dX12_rise_1 (by decide) ?_
  refine pI X hI fpX12_154 (la_99 hn) dX12_rise_2 (fun H locs hI => ?_)
  refine lv_aload_n hx hb dX12_rise_5 rfl (lv_at hl 0 rfl) ?_
  refine lv_iload_n hx hb dX12_rise_6 rfl (lv_at hl 1 rfl) ?_
  obtain ⟨q1, h2, hm⟩ := g_b hm
  refine backI X hI (runV X hI (ctX12_isKnight x1  hn _ _ h2 _) mdX12_419 (la_99 hn) rfl ⟨rfl, rfl⟩ ⟨Nat.le_of_ble_eq_true rfl, Nat.le_of_ble_eq_true rfl⟩ rfl hl.1 rfl (Nat.le_of_ble_eq_true rfl) dX12_rise_7) (fun H locs hI => ?_)
  refine lv_if_eq (tgt := 23) hx hb dX12_rise_10 (by decide) (fun c3 => ?_) (fun c3 => ?_)
  · have hm := g_t c3 hm
    refine lv_iconst (v := (0 : Int32)) hx hb dX12_rise_23 (by decide) ?_
    exact rZ X hI hr (by decide) (g_p hm).1 (g_p hm).2 dX12_rise_24
  · have hm := g_f c3 hm
    refine lv_aload_n hx hb dX12_rise_13 rfl (lv_at hl 0 rfl) ?_
    refine gR X hI fdX12_102 (la_99 hn) rf12_45 dX12_rise_14 ?_
    refine lv_iload_n hx hb dX12_rise_17 rfl (lv_at hl 1 rfl) ?_
    obtain ⟨g4, hm⟩ := g_no hm
    refine aI X hI (la_129 hn) g4 dX12_rise_18 ?_
    refine lv_iconst (v := (-1 : Int32)) hx hb dX12_rise_19 (by decide) ?_
    refine lv_icmp_ne (tgt := 25) hx hb dX12_rise_20 (by decide) (fun c5 => ?_) (fun c5 => ?_)
    · have hm := g_f c5 hm
      refine lv_aload_n hx hb dX12_rise_25 rfl (lv_at hl 0 rfl) ?_
      obtain ⟨q6, h7, hm⟩ := g_b hm
      refine backV X hI (runV X hI (ctX12_keepNow N  hn _ _ h7 _) mdX12_429 (la_99 hn) rfl ⟨rfl, rfl⟩ ⟨Nat.le_of_ble_eq_true rfl, Nat.le_of_ble_eq_true rfl⟩ rfl hl.1 rfl (Nat.le_of_ble_eq_true rfl) dX12_rise_26) (fun H locs hI => ?_)
      refine lv_aload_n hx hb dX12_rise_29 rfl (lv_at hl 0 rfl) ?_
      refine lv_iconst (v := (0 : Int32)) hx hb dX12_rise_30 (by decide) ?_
      refine lv_iload_n hx hb dX12_rise_31 rfl (lv_at hl 1 rfl) ?_
      obtain ⟨q8, h9, hm⟩ := g_b hm
      refine backV X hI (runV X hI (ctX12_leaves (0 : Int32) x1  hn _ _ h9 _) mdX12_389 (la_99 hn) rfl ⟨rfl, rfl⟩ ⟨Nat.le_of_ble_eq_true rfl, Nat.le_of_ble_eq_true rfl⟩ rfl hl.1 rfl (Nat.le_of_ble_eq_true rfl) dX12_rise_32) (fun H locs hI => ?_)
      refine lv_iconst (v := (1 : Int32)) hx hb dX12_rise_35 (by decide) ?_
      exact rZ X hI hr (by decide) (g_p hm).1 (g_p hm).2 dX12_rise_36
    · have hm := g_t c5 hm
      refine lv_iconst (v := (0 : Int32)) hx hb dX12_rise_23 (by decide) ?_
      exact rZ X hI hr (by decide) (g_p hm).1 (g_p hm).2 dX12_rise_24
abbrev rmX12_go : Room := { frames := 6, cells := 0, slots := 0, locals := 145 }
abbrev cwX12_go : Cond := .code yX12_go cX12_go 3 (some .int)
theorem cmX12_go : cwX12_go ∈ BIG := (tb8 (List.mem_of_getElem? (i := 0) rfl) rfl)
def fX12_go_43 (N : Nat) : Nat → Int32 → Int32 → Mem → Option (Int32 × Mem)
  | 0, _, _, _ => none
  | n + 1, x1, x2, m => if x1 ≤ x2 then (some ((m.1 123 0), m)) else ((fX12_passes N (0 : Int32) (1 : Int32) m).bind (fun q6 => fX12_go_43 N n x1 (x2 + (1 : Int32)) q6))
set_option maxHeartbeats 4000000 in
set_option maxRecDepth 100000 in
theorem tX12_go_43 (N : Nat) {l : Launch} {D : va_G} {ca : Nat → ClassId} {ad : Nat → Nat} {p : Program} {e : Env} {s : State} {mm : MethodId} {args : Array Value} {below : List Frame} {meth : Method} {c : Code}  (hn : HNr ca) (X : CX p s mm args meth c cX12_go 3 RX12 D ca ad (WA ca ad s.heap.size)) (hr : meth.sig.returnType = (some .int)) (fin : (Int32 × Mem))  : ∀ (n : Nat) (x1 : Int32) (x2 : Int32) (m : Mem) (H : Heap) (locs : List Loc) (ls : Array Slot), IW D ca ad (WA ca ad s.heap.size) s m H locs → lv_has ls 3 [(0, .ref (ad 99)), (1, .int x1), (2, .int x2)] → fX12_go_43 N n x1 x2 m = some fin → W p l e rmX12_go s mm args below meth c H locs 0 0 (MQ below (QI D ca ad s.heap.size fin.1 fin.2) args s 0 0 (WA ca ad s.heap.size)) (F0 mm 43 ls []) := by
  have hx := X.1
  have hb := X.2.1
  intro n
  induction n with
  | zero => intro x1 x2 m H locs ls hI hl hm
            exact absurd hm (by intro q; cases q)
  | succ n ih =>
    intro x1 x2 m H locs ls hI hl hm
    have hm : (if x1 ≤ x2 then (some ((m.1 123 0), m)) else ((fX12_passes N (0 : Int32) (1 : Int32) m).bind (fun q6 => fX12_go_43 N n x1 (x2 + (1 : Int32)) q6))) = some fin := hm
    refine lv_iload_n hx hb dX12_go_43 rfl (lv_at hl 2 rfl) ?_
    refine lv_iload_n hx hb dX12_go_44 rfl (lv_at hl 1 rfl) ?_
    refine lv_icmp_ge (tgt := 60) hx hb dX12_go_45 (by decide) (fun c5 => ?_) (fun c5 => ?_)
    · have hm := g_t c5 hm
      refine lv_aload_n hx hb dX12_go_60 rfl (lv_at hl 0 rfl) ?_
      refine gR X hI fdX12_84 (la_99 hn) rf12_39 dX12_go_61 ?_
      refine lv_iconst (v := (0 : Int32)) hx hb dX12_go_64 (by decide) ?_
      refine aIc (j := 0) X hI (la_123 hn) (by decide) (by decide) dX12_go_65 ?_
      exact rI X hI hr (g_p hm).1 (g_p hm).2 dX12_go_66
    · have hm := g_f c5 hm
      refine lv_aload_n hx hb dX12_go_48 rfl (lv_at hl 0 rfl) ?_
      refine lv_iconst (v := (0 : Int32)) hx hb dX12_go_49 (by decide) ?_
      refine lv_iconst (v := (1 : Int32)) hx hb dX12_go_50 (by decide) ?_
      obtain ⟨q6, h7, hm⟩ := g_b hm
      refine backV X hI (runV X hI (ctX12_passes N (0 : Int32) (1 : Int32)  hn _ _ h7 _) mdX12_409 (la_99 hn) rfl ⟨rfl, rfl⟩ ⟨Nat.le_of_ble_eq_true rfl, Nat.le_of_ble_eq_true rfl⟩ rfl hl.1 rfl (Nat.le_of_ble_eq_true rfl) dX12_go_51) (fun H locs hI => ?_)
      refine lv_iinc (v := (x2 + (1 : Int32))) (lv' := [(2, .int (x2 + (1 : Int32))), (0, .ref (ad 99)), (1, .int x1)]) hx hb dX12_go_54 hl (k := 2) rfl rfl (by decide) rfl (fun ls hl => ?_)
      refine lv_goto (tgt := 43) hx hb dX12_go_57 (by decide) ?_
      exact ih x1 (x2 + (1 : Int32)) q6 H locs ls hI (lv_sub hl [1, 2, 0] rfl) hm
def fX12_go (N : Nat) (x1 : Int32) (m : Mem) : Option (Int32 × Mem) := if x1 < 0 then (some ((-1 : Int32), (mI m 99 0 (0 : Int32)))) else (if (200 : Int32) < x1 then (some ((-1 : Int32), (mI m 99 0 (0 : Int32)))) else (if (((mI m 99 0 (0 : Int32)).1 123 0) + x1) ≤ (9800 : Int32) then (if x1 ≤ 0 then (fX12_go_43 N N x1 (0 : Int32) (mI m 99 0 (0 : Int32))) else (fX12_go_43 N N x1 (0 : Int32) (mI (mI m 99 0 (0 : Int32)) 99 51 (0 : Int32)))) else (some ((-1 : Int32), (mI m 99 0 (0 : Int32))))))
set_option maxHeartbeats 4000000 in
set_option maxRecDepth 100000 in
theorem ctX12_go {l : Launch} {D : va_G} {ca : Nat → ClassId} {ad : Nat → Nat} (N : Nat) (x1 : Int32)  (hn : HNr ca) (m : Mem) (fin : (Int32 × Mem)) (hm : fX12_go N x1 m = some fin) : CI l D ca ad yX12_go cwX12_go rmX12_go [.ref (ad 99), .int x1] m fin.1 fin.2 := by
  refine start (by decide) (Nat.le_of_ble_eq_true rfl) ?_
  intro p e s mm args below meth c H locs ls X hI hr hl
  have X : CX p s mm args meth c cX12_go 3 RX12 D ca ad (WA ca ad s.heap.size) := X
  have hx := X.1
  have hb := X.2.1
  have hl : lv_has ls 3 [(0, .ref (ad 99)), (1, .int x1)] := hl
  have hm : (if x1 < 0 then (some ((-1 : Int32), (mI m 99 0 (0 : Int32)))) else (if (200 : Int32) < x1 then (some ((-1 : Int32), (mI m 99 0 (0 : Int32)))) else (if (((mI m 99 0 (0 : Int32)).1 123 0) + x1) ≤ (9800 : Int32) then (if x1 ≤ 0 then (fX12_go_43 N N x1 (0 : Int32) (mI m 99 0 (0 : Int32))) else (fX12_go_43 N N x1 (0 : Int32) (mI (mI m 99 0 (0 : Int32)) 99 51 (0 : Int32)))) else (some ((-1 : Int32), (mI m 99 0 (0 : Int32))))))) = some fin := hm
  refine lv_aload_n hx hb dX12_go_0 rfl (lv_at hl 0 rfl) ?_
  refine lv_iconst (v := (0 : Int32)) hx hb dX12_go_1 (by decide) ?_
  refine pI X hI fpX12_154 (la_99 hn) dX12_go_2 (fun H locs hI => ?_)
  refine lv_iload_n hx hb dX12_go_5 rfl (lv_at hl 1 rfl) ?_
  refine lv_if_lt (tgt := 30) hx hb dX12_go_6 (by decide) (fun c1 => ?_) (fun c1 => ?_)
  · have hm := g_t c1 hm
    refine lv_iconst (v := (-1 : Int32)) hx hb dX12_go_30 (by decide) ?_
    exact rI X hI hr (g_p hm).1 (g_p hm).2 dX12_go_31
  · have hm := g_f c1 hm
    refine lv_iload_n hx hb dX12_go_9 rfl (lv_at hl 1 rfl) ?_
    refine lv_sipush (v := (200 : Int32)) hx hb dX12_go_10 (by decide) ?_
    refine lv_icmp_gt (tgt := 30) hx hb dX12_go_13 (by decide) (fun c2 => ?_) (fun c2 => ?_)
    · have hm := g_t c2 hm
      refine lv_iconst (v := (-1 : Int32)) hx hb dX12_go_30 (by decide) ?_
      exact rI X hI hr (g_p hm).1 (g_p hm).2 dX12_go_31
    · have hm := g_f c2 hm
      refine lv_aload_n hx hb dX12_go_16 rfl (lv_at hl 0 rfl) ?_
      refine gR X hI fdX12_84 (la_99 hn) rf12_39 dX12_go_17 ?_
      refine lv_iconst (v := (0 : Int32)) hx hb dX12_go_20 (by decide) ?_
      refine aIc (j := 0) X hI (la_123 hn) (by decide) (by decide) dX12_go_21 ?_
      refine lv_iload_n hx hb dX12_go_22 rfl (lv_at hl 1 rfl) ?_
      refine lv_iadd hx hb dX12_go_23 ?_
      refine lv_sipush (v := (9800 : Int32)) hx hb dX12_go_24 (by decide) ?_
      refine lv_icmp_le (tgt := 32) hx hb dX12_go_27 (by decide) (fun c3 => ?_) (fun c3 => ?_)
      · have hm := g_t c3 hm
        refine lv_iload_n hx hb dX12_go_32 rfl (lv_at hl 1 rfl) ?_
        refine lv_if_le (tgt := 41) hx hb dX12_go_33 (by decide) (fun c4 => ?_) (fun c4 => ?_)
        · have hm := g_t c4 hm
          refine lv_iconst (v := (0 : Int32)) hx hb dX12_go_41 (by decide) ?_
          refine lv_istore_n (lv' := [(2, .int (0 : Int32)), (0, .ref (ad 99)), (1, .int x1)]) hx hb dX12_go_42 rfl hl (by decide) rfl (fun ls hl => ?_)
          exact tX12_go_43 N hn X hr fin  N x1 (0 : Int32) (mI m 99 0 (0 : Int32)) H locs ls hI (lv_sub hl [1, 2, 0] rfl) hm
        · have hm := g_f c4 hm
          refine lv_aload_n hx hb dX12_go_36 rfl (lv_at hl 0 rfl) ?_
          refine lv_iconst (v := (0 : Int32)) hx hb dX12_go_37 (by decide) ?_
          refine pI X hI fpX12_317 (la_99 hn) dX12_go_38 (fun H locs hI => ?_)
          refine lv_iconst (v := (0 : Int32)) hx hb dX12_go_41 (by decide) ?_
          refine lv_istore_n (lv' := [(2, .int (0 : Int32)), (0, .ref (ad 99)), (1, .int x1)]) hx hb dX12_go_42 rfl hl (by decide) rfl (fun ls hl => ?_)
          exact tX12_go_43 N hn X hr fin  N x1 (0 : Int32) (mI (mI m 99 0 (0 : Int32)) 99 51 (0 : Int32)) H locs ls hI (lv_sub hl [1, 2, 0] rfl) hm
      · have hm := g_f c3 hm
        refine lv_iconst (v := (-1 : Int32)) hx hb dX12_go_30 (by decide) ?_
        exact rI X hI hr (g_p hm).1 (g_p hm).2 dX12_go_31
abbrev rmX12_ahead : Room := { frames := 7, cells := 0, slots := 0, locals := 167 }
abbrev cwX12_ahead : Cond := .code yX12_ahead cX12_ahead 4 (some .int)
theorem cmX12_ahead : cwX12_ahead ∈ BIG := (tb8 (List.mem_of_getElem? (i := 38) rfl) rfl)
def fX12_ahead_58 (N : Nat) (x1 : Int32) (x2 : Int32) (x3 : Int32) (m : Mem) : Option (Int32 × Mem) := (fX12_copies N (1 : Int32) (0 : Int32) m).bind (fun q10 => (fX12_goesOn N x1 q10).bind (fun q12 => if x2 = (0 : Int32) then (if ((6 : Int32) + x3) < 0 ∨ 138 ≤ ((6 : Int32) + x3).toNatClampNeg then none else (some ((q12.1 127 ((6 : Int32) + x3).toNatClampNeg), q12))) else (if x2 = (1 : Int32) then (if ((6 : Int32) + x3) < 0 ∨ 138 ≤ ((6 : Int32) + x3).toNatClampNeg then none else (some ((q12.1 126 ((6 : Int32) + x3).toNatClampNeg), q12))) else (if x2 = (2 : Int32) then (if ((6 : Int32) + x3) < 0 ∨ 138 ≤ ((6 : Int32) + x3).toNatClampNeg then none else (some ((q12.1 131 ((6 : Int32) + x3).toNatClampNeg), q12))) else (if x2 = (3 : Int32) then (if ((6 : Int32) + x3) < 0 ∨ 138 ≤ ((6 : Int32) + x3).toNatClampNeg then none else (some ((q12.1 132 ((6 : Int32) + x3).toNatClampNeg), q12))) else ((fX12_sumOf N 133 (1 : Int32) q12).bind (fun q22 => (fX12_sumOf N 133 (0 : Int32) q12).bind (fun q24 => some ((q22 - q24), q12)))))))))
set_option maxHeartbeats 4000000 in
set_option maxRecDepth 100000 in
theorem tX12_ahead_58 (N : Nat) {l : Launch} {D : va_G} {ca : Nat → ClassId} {ad : Nat → Nat} {p : Program} {e : Env} {s : State} {mm : MethodId} {args : Array Value} {below : List Frame} {meth : Method} {c : Code}  (hn : HNr ca) (X : CX p s mm args meth c cX12_ahead 4 RX12 D ca ad (WA ca ad s.heap.size)) (hr : meth.sig.returnType = (some .int)) (fin : (Int32 × Mem))  : ∀ (x1 : Int32) (x2 : Int32) (x3 : Int32) (m : Mem) (H : Heap) (locs : List Loc) (ls : Array Slot), IW D ca ad (WA ca ad s.heap.size) s m H locs → lv_has ls 4 [(0, .ref (ad 99)), (1, .int x1), (2, .int x2), (3, .int x3)] → fX12_ahead_58 N x1 x2 x3 m = some fin → W p l e rmX12_ahead s mm args below meth c H locs 0 0 (MQ below (QI D ca ad s.heap.size fin.1 fin.2) args s 0 0 (WA ca ad s.heap.size)) (F0 mm 58 ls []) := by
  have hx := X.1
  have hb := X.2.1
  intro x1 x2 x3 m H locs ls hI hl hm
  have hm : ((fX12_copies N (1 : Int32) (0 : Int32) m).bind (fun q10 => (fX12_goesOn N x1 q10).bind (fun q12 => if x2 = (0 : Int32) then (if ((6 : Int32) + x3) < 0 ∨ 138 ≤ ((6 : Int32) + x3).toNatClampNeg then none else (some ((q12.1 127 ((6 : Int32) + x3).toNatClampNeg), q12))) else (if x2 = (1 : Int32) then (if ((6 : Int32) + x3) < 0 ∨ 138 ≤ ((6 : Int32) + x3).toNatClampNeg then none else (some ((q12.1 126 ((6 : Int32) + x3).toNatClampNeg), q12))) else (if x2 = (2 : Int32) then (if ((6 : Int32) + x3) < 0 ∨ 138 ≤ ((6 : Int32) + x3).toNatClampNeg then none else (some ((q12.1 131 ((6 : Int32) + x3).toNatClampNeg), q12))) else (if x2 = (3 : Int32) then (if ((6 : Int32) + x3) < 0 ∨ 138 ≤ ((6 : Int32) + x3).toNatClampNeg then none else (some ((q12.1 132 ((6 : Int32) + x3).toNatClampNeg), q12))) else ((fX12_sumOf N 133 (1 : Int32) q12).bind (fun q22 => (fX12_sumOf N 133 (0 : Int32) q12).bind (fun q24 => some ((q22 - q24), q12)))))))))) = some fin := hm
  refine lv_aload_n hx hb dX12_ahead_58 rfl (lv_at hl 0 rfl) ?_
  refine lv_iconst (v := (1 : Int32)) hx hb dX12_ahead_59 (by decide) ?_
  refine lv_iconst (v := (0 : Int32)) hx hb dX12_ahead_60 (by decide) ?_
  obtain ⟨q10, h11, hm⟩ := g_b hm
  refine backV X hI (runV X hI (ctX12_copies N (1 : Int32) (0 : Int32)  hn _ _ h11 _) mdX12_426 (la_99 hn) rfl ⟨rfl, rfl⟩ ⟨Nat.le_of_ble_eq_true rfl, Nat.le_of_ble_eq_true rfl⟩ rfl hl.1 rfl (Nat.le_of_ble_eq_true rfl) dX12_ahead_61) (fun H locs hI => ?_)
  refine lv_aload_n hx hb dX12_ahead_64 rfl (lv_at hl 0 rfl) ?_
  refine lv_iload_n hx hb dX12_ahead_65 rfl (lv_at hl 1 rfl) ?_
  obtain ⟨q12, h13, hm⟩ := g_b hm
  refine backV X hI (runV X hI (ctX12_goesOn N x1  hn _ _ h13 _) mdX12_432 (la_99 hn) rfl ⟨rfl, rfl⟩ ⟨Nat.le_of_ble_eq_true rfl, Nat.le_of_ble_eq_true rfl⟩ rfl hl.1 rfl (Nat.le_of_ble_eq_true rfl) dX12_ahead_66) (fun H locs hI => ?_)
  refine lv_iload_n hx hb dX12_ahead_69 rfl (lv_at hl 2 rfl) ?_
  by_cases c14 : x2 = (0 : Int32)
  · have hm := g_t c14 hm
    refine lv_tableIn (tgt := 100) hx hb dX12_ahead_70 (by rw [c14]; decide) (by rw [c14]; decide) (off := 30) (by rw [c14]; decide) (by decide) ?_
    refine lv_aload_n hx hb dX12_ahead_100 rfl (lv_at hl 0 rfl) ?_
    refine gR X hI fdX12_96 (la_99 hn) rf12_43 dX12_ahead_101 ?_
    refine lv_bipush (v := (6 : Int32)) hx hb dX12_ahead_104 (by decide) ?_
    refine lv_iload_n hx hb dX12_ahead_106 rfl (lv_at hl 3 rfl) ?_
    refine lv_iadd hx hb dX12_ahead_107 ?_
    obtain ⟨g15, hm⟩ := g_no hm
    refine aI X hI (la_127 hn) g15 dX12_ahead_108 ?_
    exact rI X hI hr (g_p hm).1 (g_p hm).2 dX12_ahead_109
  · have hm := g_f c14 hm
    by_cases c16 : x2 = (1 : Int32)
    · have hm := g_t c16 hm
      refine lv_tableIn (tgt := 110) hx hb dX12_ahead_70 (by rw [c16]; decide) (by rw [c16]; decide) (off := 40) (by rw [c16]; decide) (by decide) ?_
      refine lv_aload_n hx hb dX12_ahead_110 rfl (lv_at hl 0 rfl) ?_
      refine gR X hI fdX12_93 (la_99 hn) rf12_42 dX12_ahead_111 ?_
      refine lv_bipush (v := (6 : Int32)) hx hb dX12_ahead_114 (by decide) ?_
      refine lv_iload_n hx hb dX12_ahead_116 rfl (lv_at hl 3 rfl) ?_
      refine lv_iadd hx hb dX12_ahead_117 ?_
      obtain ⟨g17, hm⟩ := g_no hm
      refine aI X hI (la_126 hn) g17 dX12_ahead_118 ?_
      exact rI X hI hr (g_p hm).1 (g_p hm).2 dX12_ahead_119
    · have hm := g_f c16 hm
      by_cases c18 : x2 = (2 : Int32)
      · have hm := g_t c18 hm
        refine lv_tableIn (tgt := 120) hx hb dX12_ahead_70 (by rw [c18]; decide) (by rw [c18]; decide) (off := 50) (by rw [c18]; decide) (by decide) ?_
        refine lv_aload_n hx hb dX12_ahead_120 rfl (lv_at hl 0 rfl) ?_
        refine gR X hI fdX12_108 (la_99 hn) rf12_47 dX12_ahead_121 ?_
        refine lv_bipush (v := (6 : Int32)) hx hb dX12_ahead_124 (by decide) ?_
        refine lv_iload_n hx hb dX12_ahead_126 rfl (lv_at hl 3 rfl) ?_
        refine lv_iadd hx hb dX12_ahead_127 ?_
        obtain ⟨g19, hm⟩ := g_no hm
        refine aI X hI (la_131 hn) g19 dX12_ahead_128 ?_
        exact rI X hI hr (g_p hm).1 (g_p hm).2 dX12_ahead_129
      · have hm := g_f c18 hm
        by_cases c20 : x2 = (3 : Int32)
        · have hm := g_t c20 hm
          refine lv_tableIn (tgt := 130) hx hb dX12_ahead_70 (by rw [c20]; decide) (by rw [c20]; decide) (off := 60) (by rw [c20]; decide) (by decide) ?_
          refine lv_aload_n hx hb dX12_ahead_130 rfl (lv_at hl 0 rfl) ?_
          refine gR X hI fdX12_111 (la_99 hn) rf12_48 dX12_ahead_131 ?_
          refine lv_bipush (v := (6 : Int32)) hx hb dX12_ahead_134 (by decide) ?_
          refine lv_iload_n hx hb dX12_ahead_136 rfl (lv_at hl 3 rfl) ?_
          refine lv_iadd hx hb dX12_ahead_137 ?_
          obtain ⟨g21, hm⟩ := g_no hm
          refine aI X hI (la_132 hn) g21 dX12_ahead_138 ?_
          exact rI X hI hr (g_p hm).1 (g_p hm).2 dX12_ahead_139
        · have hm := g_f c20 hm
          have ec14 := lv_neT c14 (a := 0) (by decide)
          have ec16 := lv_neT c16 (a := 1) (by decide)
          have ec18 := lv_neT c18 (a := 2) (by decide)
          have ec20 := lv_neT c20 (a := 3) (by decide)
          refine lv_tableOut (tgt := 140) hx hb dX12_ahead_70 (by omega) (by decide) ?_
          refine lv_aload_n hx hb dX12_ahead_140 rfl (lv_at hl 0 rfl) ?_
          refine lv_aload_n hx hb dX12_ahead_141 rfl (lv_at hl 0 rfl) ?_
          refine gR X hI fdX12_114 (la_99 hn) rf12_49 dX12_ahead_142 ?_
          refine lv_iconst (v := (1 : Int32)) hx hb dX12_ahead_145 (by decide) ?_
          obtain ⟨q22, h23, hm⟩ := g_b hm
          refine backI X hI (runV X hI (ctX12_sumOf N 133 (1 : Int32) (ly_self (la_133 hn)) hn _ _ h23 _) mdX12_435 (la_99 hn) rfl ⟨rfl, rfl⟩ ⟨Nat.le_of_ble_eq_true rfl, Nat.le_of_ble_eq_true rfl⟩ rfl hl.1 rfl (Nat.le_of_ble_eq_true rfl) dX12_ahead_146) (fun H locs hI => ?_)
          refine lv_aload_n hx hb dX12_ahead_149 rfl (lv_at hl 0 rfl) ?_
          refine lv_aload_n hx hb dX12_ahead_150 rfl (lv_at hl 0 rfl) ?_
          refine gR X hI fdX12_114 (la_99 hn) rf12_49 dX12_ahead_151 ?_
          refine lv_iconst (v := (0 : Int32)) hx hb dX12_ahead_154 (by decide) ?_
          obtain ⟨q24, h25, hm⟩ := g_b hm
          refine backI X hI (runV X hI (ctX12_sumOf N 133 (0 : Int32) (ly_self (la_133 hn)) hn _ _ h25 _) mdX12_435 (la_99 hn) rfl ⟨rfl, rfl⟩ ⟨Nat.le_of_ble_eq_true rfl, Nat.le_of_ble_eq_true rfl⟩ rfl hl.1 rfl (Nat.le_of_ble_eq_true rfl) dX12_ahead_155) (fun H locs hI => ?_)
          refine lv_isub hx hb dX12_ahead_158 ?_
          exact rI X hI hr (g_p hm).1 (g_p hm).2 dX12_ahead_159
def fX12_ahead_48 (N : Nat) (x1 : Int32) (x2 : Int32) (x3 : Int32) (m : Mem) : Option (Int32 × Mem) := (fX12_isKnight x3 m).bind (fun q7 => if q7 = 0 then (some ((-1 : Int32), m)) else (fX12_ahead_58 N x1 x2 x3 m))
set_option maxHeartbeats 4000000 in
set_option maxRecDepth 100000 in
theorem tX12_ahead_48 (N : Nat) {l : Launch} {D : va_G} {ca : Nat → ClassId} {ad : Nat → Nat} {p : Program} {e : Env} {s : State} {mm : MethodId} {args : Array Value} {below : List Frame} {meth : Method} {c : Code}  (hn : HNr ca) (X : CX p s mm args meth c cX12_ahead 4 RX12 D ca ad (WA ca ad s.heap.size)) (hr : meth.sig.returnType = (some .int)) (fin : (Int32 × Mem))  : ∀ (x1 : Int32) (x2 : Int32) (x3 : Int32) (m : Mem) (H : Heap) (locs : List Loc) (ls : Array Slot), IW D ca ad (WA ca ad s.heap.size) s m H locs → lv_has ls 4 [(0, .ref (ad 99)), (1, .int x1), (2, .int x2), (3, .int x3)] → fX12_ahead_48 N x1 x2 x3 m = some fin → W p l e rmX12_ahead s mm args below meth c H locs 0 0 (MQ below (QI D ca ad s.heap.size fin.1 fin.2) args s 0 0 (WA ca ad s.heap.size)) (F0 mm 48 ls []) := by
  have hx := X.1
  have hb := X.2.1
  intro x1 x2 x3 m H locs ls hI hl hm
  have hm : ((fX12_isKnight x3 m).bind (fun q7 => if q7 = 0 then (some ((-1 : Int32), m)) else (fX12_ahead_58 N x1 x2 x3 m))) = some fin := hm
  refine lv_aload_n hx hb dX12_ahead_48 rfl (lv_at hl 0 rfl) ?_
  refine lv_iload_n hx hb dX12_ahead_49 rfl (lv_at hl 3 rfl) ?_
  obtain ⟨q7, h8, hm⟩ := g_b hm
  refine backI X hI (runV X hI (ctX12_isKnight x3  hn _ _ h8 _) mdX12_419 (la_99 hn) rfl ⟨rfl, rfl⟩ ⟨Nat.le_of_ble_eq_true rfl, Nat.le_of_ble_eq_true rfl⟩ rfl hl.1 rfl (Nat.le_of_ble_eq_true rfl) dX12_ahead_50) (fun H locs hI => ?_)
  refine lv_if_ne (tgt := 58) hx hb dX12_ahead_53 (by decide) (fun c9 => ?_) (fun c9 => ?_)
  · have hm := g_f c9 hm
    exact tX12_ahead_58 N hn X hr fin  x1 x2 x3 m H locs ls hI (lv_sub hl [0, 1, 2, 3] rfl) hm
  · have hm := g_t c9 hm
    refine lv_iconst (v := (-1 : Int32)) hx hb dX12_ahead_56 (by decide) ?_
    exact rI X hI hr (g_p hm).1 (g_p hm).2 dX12_ahead_57
def fX12_ahead_38 (N : Nat) (x1 : Int32) (x2 : Int32) (x3 : Int32) (m : Mem) : Option (Int32 × Mem) := if x2 = (2 : Int32) then (fX12_ahead_48 N x1 x2 x3 m) else (if x2 = (3 : Int32) then (fX12_ahead_48 N x1 x2 x3 m) else (fX12_ahead_58 N x1 x2 x3 m))
set_option maxHeartbeats 4000000 in
set_option maxRecDepth 100000 in
theorem tX12_ahead_38 (N : Nat) {l : Launch} {D : va_G} {ca : Nat → ClassId} {ad : Nat → Nat} {p : Program} {e : Env} {s : State} {mm : MethodId} {args : Array Value} {below : List Frame} {meth : Method} {c : Code}  (hn : HNr ca) (X : CX p s mm args meth c cX12_ahead 4 RX12 D ca ad (WA ca ad s.heap.size)) (hr : meth.sig.returnType = (some .int)) (fin : (Int32 × Mem))  : ∀ (x1 : Int32) (x2 : Int32) (x3 : Int32) (m : Mem) (H : Heap) (locs : List Loc) (ls : Array Slot), IW D ca ad (WA ca ad s.heap.size) s m H locs → lv_has ls 4 [(0, .ref (ad 99)), (1, .int x1), (2, .int x2), (3, .int x3)] → fX12_ahead_38 N x1 x2 x3 m = some fin → W p l e rmX12_ahead s mm args below meth c H locs 0 0 (MQ below (QI D ca ad s.heap.size fin.1 fin.2) args s 0 0 (WA ca ad s.heap.size)) (F0 mm 38 ls []) := by
  have hx := X.1
  have hb := X.2.1
  intro x1 x2 x3 m H locs ls hI hl hm
  have hm : (if x2 = (2 : Int32) then (fX12_ahead_48 N x1 x2 x3 m) else (if x2 = (3 : Int32) then (fX12_ahead_48 N x1 x2 x3 m) else (fX12_ahead_58 N x1 x2 x3 m))) = some fin := hm
  refine lv_iload_n hx hb dX12_ahead_38 rfl (lv_at hl 2 rfl) ?_
  refine lv_iconst (v := (2 : Int32)) hx hb dX12_ahead_39 (by decide) ?_
  refine lv_icmp_eq (tgt := 48) hx hb dX12_ahead_40 (by decide) (fun c6 => ?_) (fun c6 => ?_)
  · have hm := g_t c6 hm
    exact tX12_ahead_48 N hn X hr fin  x1 x2 x3 m H locs ls hI (lv_sub hl [0, 1, 2, 3] rfl) hm
  · have hm := g_f c6 hm
    refine lv_iload_n hx hb dX12_ahead_43 rfl (lv_at hl 2 rfl) ?_
    refine lv_iconst (v := (3 : Int32)) hx hb dX12_ahead_44 (by decide) ?_
    refine lv_icmp_ne (tgt := 58) hx hb dX12_ahead_45 (by decide) (fun c26 => ?_) (fun c26 => ?_)
    · have hm := g_f c26 hm
      exact tX12_ahead_58 N hn X hr fin  x1 x2 x3 m H locs ls hI (lv_sub hl [0, 1, 2, 3] rfl) hm
    · have hm := g_t c26 hm
      exact tX12_ahead_48 N hn X hr fin  x1 x2 x3 m H locs ls hI (lv_sub hl [0, 1, 2, 3] rfl) hm
def fX12_ahead (N : Nat) (x1 : Int32) (x2 : Int32) (x3 : Int32) (m : Mem) : Option (Int32 × Mem) := if x1 < 0 then (some ((-1 : Int32), (mI m 99 0 (0 : Int32)))) else (if (200 : Int32) < x1 then (some ((-1 : Int32), (mI m 99 0 (0 : Int32)))) else (if x2 < 0 then (some ((-1 : Int32), (mI m 99 0 (0 : Int32)))) else (if (4 : Int32) < x2 then (some ((-1 : Int32), (mI m 99 0 (0 : Int32)))) else (if (2 : Int32) ≤ x2 then (fX12_ahead_38 N x1 x2 x3 (mI m 99 0 (0 : Int32))) else ((fX12_isTub x3 (mI m 99 0 (0 : Int32))).bind (fun q27 => if q27 = 0 then (some ((-1 : Int32), (mI m 99 0 (0 : Int32)))) else (fX12_ahead_38 N x1 x2 x3 (mI m 99 0 (0 : Int32)))))))))
set_option maxHeartbeats 4000000 in
set_option maxRecDepth 100000 in
theorem ctX12_ahead {l : Launch} {D : va_G} {ca : Nat → ClassId} {ad : Nat → Nat} (N : Nat) (x1 : Int32) (x2 : Int32) (x3 : Int32)  (hn : HNr ca) (m : Mem) (fin : (Int32 × Mem)) (hm : fX12_ahead N x1 x2 x3 m = some fin) : CI l D ca ad yX12_ahead cwX12_ahead rmX12_ahead [.ref (ad 99), .int x1, .int x2, .int x3] m fin.1 fin.2 := by
  refine start (by decide) (Nat.le_of_ble_eq_true rfl) ?_
  intro p e s mm args below meth c H locs ls X hI hr hl
  have X : CX p s mm args meth c cX12_ahead 4 RX12 D ca ad (WA ca ad s.heap.size) := X
  have hx := X.1
  have hb := X.2.1
  have hl : lv_has ls 4 [(0, .ref (ad 99)), (1, .int x1), (2, .int x2), (3, .int x3)] := hl
  have hm : (if x1 < 0 then (some ((-1 : Int32), (mI m 99 0 (0 : Int32)))) else (if (200 : Int32) < x1 then (some ((-1 : Int32), (mI m 99 0 (0 : Int32)))) else (if x2 < 0 then (some ((-1 : Int32), (mI m 99 0 (0 : Int32)))) else (if (4 : Int32) < x2 then (some ((-1 : Int32), (mI m 99 0 (0 : Int32)))) else (if (2 : Int32) ≤ x2 then (fX12_ahead_38 N x1 x2 x3 (mI m 99 0 (0 : Int32))) else ((fX12_isTub x3 (mI m 99 0 (0 : Int32))).bind (fun q27 => if q27 = 0 then (some ((-1 : Int32), (mI m 99 0 (0 : Int32)))) else (fX12_ahead_38 N x1 x2 x3 (mI m 99 0 (0 : Int32)))))))))) = some fin := hm
  refine lv_aload_n hx hb dX12_ahead_0 rfl (lv_at hl 0 rfl) ?_
  refine lv_iconst (v := (0 : Int32)) hx hb dX12_ahead_1 (by decide) ?_
  refine pI X hI fpX12_154 (la_99 hn) dX12_ahead_2 (fun H locs hI => ?_)
  refine lv_iload_n hx hb dX12_ahead_5 rfl (lv_at hl 1 rfl) ?_
  refine lv_if_lt (tgt := 56) hx hb dX12_ahead_6 (by decide) (fun c1 => ?_) (fun c1 => ?_)
  · have hm := g_t c1 hm
    refine lv_iconst (v := (-1 : Int32)) hx hb dX12_ahead_56 (by decide) ?_
    exact rI X hI hr (g_p hm).1 (g_p hm).2 dX12_ahead_57
  · have hm := g_f c1 hm
    refine lv_iload_n hx hb dX12_ahead_9 rfl (lv_at hl 1 rfl) ?_
    refine lv_sipush (v := (200 : Int32)) hx hb dX12_ahead_10 (by decide) ?_
    refine lv_icmp_gt (tgt := 56) hx hb dX12_ahead_13 (by decide) (fun c2 => ?_) (fun c2 => ?_)
    · have hm := g_t c2 hm
      refine lv_iconst (v := (-1 : Int32)) hx hb dX12_ahead_56 (by decide) ?_
      exact rI X hI hr (g_p hm).1 (g_p hm).2 dX12_ahead_57
    · have hm := g_f c2 hm
      refine lv_iload_n hx hb dX12_ahead_16 rfl (lv_at hl 2 rfl) ?_
      refine lv_if_lt (tgt := 56) hx hb dX12_ahead_17 (by decide) (fun c3 => ?_) (fun c3 => ?_)
      · have hm := g_t c3 hm
        refine lv_iconst (v := (-1 : Int32)) hx hb dX12_ahead_56 (by decide) ?_
        exact rI X hI hr (g_p hm).1 (g_p hm).2 dX12_ahead_57
      · have hm := g_f c3 hm
        refine lv_iload_n hx hb dX12_ahead_20 rfl (lv_at hl 2 rfl) ?_
        refine lv_iconst (v := (4 : Int32)) hx hb dX12_ahead_21 (by decide) ?_
        refine lv_icmp_gt (tgt := 56) hx hb dX12_ahead_22 (by decide) (fun c4 => ?_) (fun c4 => ?_)
        · have hm := g_t c4 hm
          refine lv_iconst (v := (-1 : Int32)) hx hb dX12_ahead_56 (by decide) ?_
          exact rI X hI hr (g_p hm).1 (g_p hm).2 dX12_ahead_57
        · have hm := g_f c4 hm
          refine lv_iload_n hx hb dX12_ahead_25 rfl (lv_at hl 2 rfl) ?_
          refine lv_iconst (v := (2 : Int32)) hx hb dX12_ahead_26 (by decide) ?_
          refine lv_icmp_ge (tgt := 38) hx hb dX12_ahead_27 (by decide) (fun c5 => ?_) (fun c5 => ?_)
          · have hm := g_t c5 hm
            exact tX12_ahead_38 N hn X hr fin  x1 x2 x3 (mI m 99 0 (0 : Int32)) H locs ls hI (lv_sub hl [0, 1, 2, 3] rfl) hm
          · have hm := g_f c5 hm
            refine lv_aload_n hx hb dX12_ahead_30 rfl (lv_at hl 0 rfl) ?_
            refine lv_iload_n hx hb dX12_ahead_31 rfl (lv_at hl 3 rfl) ?_
            obtain ⟨q27, h28, hm⟩ := g_b hm
            refine backI X hI (runV X hI (ctX12_isTub x3  hn _ _ h28 _) mdX12_413 (la_99 hn) rfl ⟨rfl, rfl⟩ ⟨Nat.le_of_ble_eq_true rfl, Nat.le_of_ble_eq_true rfl⟩ rfl hl.1 rfl (Nat.le_of_ble_eq_true rfl) dX12_ahead_32) (fun H locs hI => ?_)
            refine lv_if_eq (tgt := 56) hx hb dX12_ahead_35 (by decide) (fun c29 => ?_) (fun c29 => ?_)
            · have hm := g_t c29 hm
              refine lv_iconst (v := (-1 : Int32)) hx hb dX12_ahead_56 (by decide) ?_
              exact rI X hI hr (g_p hm).1 (g_p hm).2 dX12_ahead_57
            · have hm := g_f c29 hm
              exact tX12_ahead_38 N hn X hr fin  x1 x2 x3 (mI m 99 0 (0 : Int32)) H locs ls hI (lv_sub hl [0, 1, 2, 3] rfl) hm
abbrev rmX12_areDegrees : Room := { frames := 0, cells := 0, slots := 0, locals := 0 }
def fX12_areDegrees  (x0 : Int32) (m : Mem) : Option Int32 := if x0 < 0 then (some (0 : Int32)) else (if (99 : Int32) < x0 then (some (0 : Int32)) else (some (1 : Int32)))
set_option maxHeartbeats 4000000 in
set_option maxRecDepth 100000 in
theorem ctX12_areDegrees {l : Launch} {D : va_G} {ca : Nat → ClassId} {ad : Nat → Nat}  (x0 : Int32)  (hn : HNr ca) (m : Mem) (fin : Int32) (hm : fX12_areDegrees x0 m = some fin) : CI l D ca ad yX12_areDegrees cwX12_areDegrees rmX12_areDegrees [.int x0] m fin m := by
  refine start (by decide) (Nat.le_of_ble_eq_true rfl) ?_
  intro p e s mm args below meth c H locs ls X hI hr hl
  have X : CX p s mm args meth c cX12_areDegrees 1 RX12 D ca ad (WA ca ad s.heap.size) := X
  have hx := X.1
  have hb := X.2.1
  have hl : lv_has ls 1 [(0, .int x0)] := hl
  have hm : (if x0 < 0 then (some (0 : Int32)) else (if (99 : Int32) < x0 then (some (0 : Int32)) else (some (1 : Int32)))) = some fin := hm
  have hpm : m = m := rfl
  refine lv_iload_n hx hb dX12_areDegrees_0 rfl (lv_at hl 0 rfl) ?_
  refine lv_if_lt (tgt := 14) hx hb dX12_areDegrees_1 (by decide) (fun c1 => ?_) (fun c1 => ?_)
  · have hm := g_t c1 hm
    refine lv_iconst (v := (0 : Int32)) hx hb dX12_areDegrees_14 (by decide) ?_
    exact rZ X hI hr (by decide) (g_1 hm) hpm dX12_areDegrees_15
  · have hm := g_f c1 hm
    refine lv_iload_n hx hb dX12_areDegrees_4 rfl (lv_at hl 0 rfl) ?_
    refine lv_bipush (v := (99 : Int32)) hx hb dX12_areDegrees_5 (by decide) ?_
    refine lv_icmp_gt (tgt := 14) hx hb dX12_areDegrees_7 (by decide) (fun c2 => ?_) (fun c2 => ?_)
    · have hm := g_t c2 hm
      refine lv_iconst (v := (0 : Int32)) hx hb dX12_areDegrees_14 (by decide) ?_
      exact rZ X hI hr (by decide) (g_1 hm) hpm dX12_areDegrees_15
    · have hm := g_f c2 hm
      refine lv_iconst (v := (1 : Int32)) hx hb dX12_areDegrees_10 (by decide) ?_
      refine lv_goto (tgt := 15) hx hb dX12_areDegrees_11 (by decide) ?_
      exact rZ X hI hr (by decide) (g_1 hm) hpm dX12_areDegrees_15
abbrev rmX12_cools : Room := { frames := 6, cells := 0, slots := 0, locals := 145 }
abbrev cwX12_cools : Cond := .code yX12_cools cX12_cools 4 (some .int)
theorem cmX12_cools : cwX12_cools ∈ BIG := (tb8 (List.mem_of_getElem? (i := 50) rfl) rfl)
def fX12_cools_30 (N : Nat) : Nat → Int32 → Int32 → Int32 → Mem → Option (Int32 × Mem)
  | 0, _, _, _, _ => none
  | n + 1, x1, x2, x3, m => if (199 : Int32) < x3 then (some ((-2 : Int32), m)) else (if ((6 : Int32) + x1) < 0 ∨ 138 ≤ ((6 : Int32) + x1).toNatClampNeg then none else (if ((10 : Int32) * x2) < (m.1 127 ((6 : Int32) + x1).toNatClampNeg) then ((fX12_passes N (1 : Int32) (0 : Int32) m).bind (fun q12 => fX12_cools_30 N n x1 x2 (x3 + (1 : Int32)) q12)) else (some (x3, m))))
set_option maxHeartbeats 4000000 in
set_option maxRecDepth 100000 in
theorem tX12_cools_30 (N : Nat) {l : Launch} {D : va_G} {ca : Nat → ClassId} {ad : Nat → Nat} {p : Program} {e : Env} {s : State} {mm : MethodId} {args : Array Value} {below : List Frame} {meth : Method} {c : Code}  (hn : HNr ca) (X : CX p s mm args meth c cX12_cools 4 RX12 D ca ad (WA ca ad s.heap.size)) (hr : meth.sig.returnType = (some .int)) (fin : (Int32 × Mem))  : ∀ (n : Nat) (x1 : Int32) (x2 : Int32) (x3 : Int32) (m : Mem) (H : Heap) (locs : List Loc) (ls : Array Slot), IW D ca ad (WA ca ad s.heap.size) s m H locs → lv_has ls 4 [(0, .ref (ad 99)), (1, .int x1), (2, .int x2), (3, .int x3)] → fX12_cools_30 N n x1 x2 x3 m = some fin → W p l e rmX12_cools s mm args below meth c H locs 0 0 (MQ below (QI D ca ad s.heap.size fin.1 fin.2) args s 0 0 (WA ca ad s.heap.size)) (F0 mm 30 ls []) := by
  have hx := X.1
  have hb := X.2.1
  intro n
  induction n with
  | zero => intro x1 x2 x3 m H locs ls hI hl hm
            exact absurd hm (by intro q; cases q)
  | succ n ih =>
    intro x1 x2 x3 m H locs ls hI hl hm
    have hm : (if (199 : Int32) < x3 then (some ((-2 : Int32), m)) else (if ((6 : Int32) + x1) < 0 ∨ 138 ≤ ((6 : Int32) + x1).toNatClampNeg then none else (if ((10 : Int32) * x2) < (m.1 127 ((6 : Int32) + x1).toNatClampNeg) then ((fX12_passes N (1 : Int32) (0 : Int32) m).bind (fun q12 => fX12_cools_30 N n x1 x2 (x3 + (1 : Int32)) q12)) else (some (x3, m))))) = some fin := hm
    refine lv_iload_n hx hb dX12_cools_30 rfl (lv_at hl 3 rfl) ?_
    refine lv_sipush (v := (199 : Int32)) hx hb dX12_cools_31 (by decide) ?_
    refine lv_icmp_gt (tgt := 67) hx hb dX12_cools_34 (by decide) (fun c9 => ?_) (fun c9 => ?_)
    · have hm := g_t c9 hm
      refine lv_bipush (v := (-2 : Int32)) hx hb dX12_cools_67 (by decide) ?_
      exact rI X hI hr (g_p hm).1 (g_p hm).2 dX12_cools_69
    · have hm := g_f c9 hm
      refine lv_aload_n hx hb dX12_cools_37 rfl (lv_at hl 0 rfl) ?_
      refine gR X hI fdX12_96 (la_99 hn) rf12_43 dX12_cools_38 ?_
      refine lv_bipush (v := (6 : Int32)) hx hb dX12_cools_41 (by decide) ?_
      refine lv_iload_n hx hb dX12_cools_43 rfl (lv_at hl 1 rfl) ?_
      refine lv_iadd hx hb dX12_cools_44 ?_
      obtain ⟨g10, hm⟩ := g_no hm
      refine aI X hI (la_127 hn) g10 dX12_cools_45 ?_
      refine lv_bipush (v := (10 : Int32)) hx hb dX12_cools_46 (by decide) ?_
      refine lv_iload_n hx hb dX12_cools_48 rfl (lv_at hl 2 rfl) ?_
      refine lv_imul hx hb dX12_cools_49 ?_
      refine lv_icmp_gt (tgt := 55) hx hb dX12_cools_50 (by decide) (fun c11 => ?_) (fun c11 => ?_)
      · have hm := g_t c11 hm
        refine lv_aload_n hx hb dX12_cools_55 rfl (lv_at hl 0 rfl) ?_
        refine lv_iconst (v := (1 : Int32)) hx hb dX12_cools_56 (by decide) ?_
        refine lv_iconst (v := (0 : Int32)) hx hb dX12_cools_57 (by decide) ?_
        obtain ⟨q12, h13, hm⟩ := g_b hm
        refine backV X hI (runV X hI (ctX12_passes N (1 : Int32) (0 : Int32)  hn _ _ h13 _) mdX12_409 (la_99 hn) rfl ⟨rfl, rfl⟩ ⟨Nat.le_of_ble_eq_true rfl, Nat.le_of_ble_eq_true rfl⟩ rfl hl.1 rfl (Nat.le_of_ble_eq_true rfl) dX12_cools_58) (fun H locs hI => ?_)
        refine lv_iinc (v := (x3 + (1 : Int32))) (lv' := [(3, .int (x3 + (1 : Int32))), (0, .ref (ad 99)), (1, .int x1), (2, .int x2)]) hx hb dX12_cools_61 hl (k := 3) rfl rfl (by decide) rfl (fun ls hl => ?_)
        refine lv_goto (tgt := 30) hx hb dX12_cools_64 (by decide) ?_
        exact ih x1 x2 (x3 + (1 : Int32)) q12 H locs ls hI (lv_sub hl [1, 2, 3, 0] rfl) hm
      · have hm := g_f c11 hm
        refine lv_iload_n hx hb dX12_cools_53 rfl (lv_at hl 3 rfl) ?_
        exact rI X hI hr (g_p hm).1 (g_p hm).2 dX12_cools_54
def fX12_cools (N : Nat) (x1 : Int32) (x2 : Int32) (m : Mem) : Option (Int32 × Mem) := (fX12_isTub x1 (mI m 99 0 (0 : Int32))).bind (fun q1 => if q1 = 0 then (some ((-1 : Int32), (mI m 99 0 (0 : Int32)))) else ((fX12_areDegrees x2 (mI m 99 0 (0 : Int32))).bind (fun q4 => if q4 = 0 then (some ((-1 : Int32), (mI m 99 0 (0 : Int32)))) else ((fX12_copies N (1 : Int32) (0 : Int32) (mI m 99 0 (0 : Int32))).bind (fun q7 => fX12_cools_30 N N x1 x2 (0 : Int32) q7)))))
set_option maxHeartbeats 4000000 in
set_option maxRecDepth 100000 in
theorem ctX12_cools {l : Launch} {D : va_G} {ca : Nat → ClassId} {ad : Nat → Nat} (N : Nat) (x1 : Int32) (x2 : Int32)  (hn : HNr ca) (m : Mem) (fin : (Int32 × Mem)) (hm : fX12_cools N x1 x2 m = some fin) : CI l D ca ad yX12_cools cwX12_cools rmX12_cools [.ref (ad 99), .int x1, .int x2] m fin.1 fin.2 := by
  refine start (by decide) (Nat.le_of_ble_eq_true rfl) ?_
  intro p e s mm args below meth c H locs ls X hI hr hl
  have X : CX p s mm args meth c cX12_cools 4 RX12 D ca ad (WA ca ad s.heap.size) := X
  have hx := X.1
  have hb := X.2.1
  have hl : lv_has ls 4 [(0, .ref (ad 99)), (1, .int x1), (2, .int x2)] := hl
  have hm : ((fX12_isTub x1 (mI m 99 0 (0 : Int32))).bind (fun q1 => if q1 = 0 then (some ((-1 : Int32), (mI m 99 0 (0 : Int32)))) else ((fX12_areDegrees x2 (mI m 99 0 (0 : Int32))).bind (fun q4 => if q4 = 0 then (some ((-1 : Int32), (mI m 99 0 (0 : Int32)))) else ((fX12_copies N (1 : Int32) (0 : Int32) (mI m 99 0 (0 : Int32))).bind (fun q7 => fX12_cools_30 N N x1 x2 (0 : Int32) q7)))))) = some fin := hm
  refine lv_aload_n hx hb dX12_cools_0 rfl (lv_at hl 0 rfl) ?_
  refine lv_iconst (v := (0 : Int32)) hx hb dX12_cools_1 (by decide) ?_
  refine pI X hI fpX12_154 (la_99 hn) dX12_cools_2 (fun H locs hI => ?_)
  refine lv_aload_n hx hb dX12_cools_5 rfl (lv_at hl 0 rfl) ?_
  refine lv_iload_n hx hb dX12_cools_6 rfl (lv_at hl 1 rfl) ?_
  obtain ⟨q1, h2, hm⟩ := g_b hm
  refine backI X hI (runV X hI (ctX12_isTub x1  hn _ _ h2 _) mdX12_413 (la_99 hn) rfl ⟨rfl, rfl⟩ ⟨Nat.le_of_ble_eq_true rfl, Nat.le_of_ble_eq_true rfl⟩ rfl hl.1 rfl (Nat.le_of_ble_eq_true rfl) dX12_cools_7) (fun H locs hI => ?_)
  refine lv_if_eq (tgt := 20) hx hb dX12_cools_10 (by decide) (fun c3 => ?_) (fun c3 => ?_)
  · have hm := g_t c3 hm
    refine lv_iconst (v := (-1 : Int32)) hx hb dX12_cools_20 (by decide) ?_
    exact rI X hI hr (g_p hm).1 (g_p hm).2 dX12_cools_21
  · have hm := g_f c3 hm
    refine lv_iload_n hx hb dX12_cools_13 rfl (lv_at hl 2 rfl) ?_
    obtain ⟨q4, h5, hm⟩ := g_b hm
    refine backI X hI (runS X hI (ctX12_areDegrees x2  hn _ _ h5 _) msX12_439 ⟨rfl, rfl⟩ ⟨Nat.le_of_ble_eq_true rfl, Nat.le_of_ble_eq_true rfl⟩ rfl hl.1 rfl (Nat.le_of_ble_eq_true rfl) dX12_cools_14) (fun H locs hI => ?_)
    refine lv_if_ne (tgt := 22) hx hb dX12_cools_17 (by decide) (fun c6 => ?_) (fun c6 => ?_)
    · have hm := g_f c6 hm
      refine lv_aload_n hx hb dX12_cools_22 rfl (lv_at hl 0 rfl) ?_
      refine lv_iconst (v := (1 : Int32)) hx hb dX12_cools_23 (by decide) ?_
      refine lv_iconst (v := (0 : Int32)) hx hb dX12_cools_24 (by decide) ?_
      obtain ⟨q7, h8, hm⟩ := g_b hm
      refine backV X hI (runV X hI (ctX12_copies N (1 : Int32) (0 : Int32)  hn _ _ h8 _) mdX12_426 (la_99 hn) rfl ⟨rfl, rfl⟩ ⟨Nat.le_of_ble_eq_true rfl, Nat.le_of_ble_eq_true rfl⟩ rfl hl.1 rfl (Nat.le_of_ble_eq_true rfl) dX12_cools_25) (fun H locs hI => ?_)
      refine lv_iconst (v := (0 : Int32)) hx hb dX12_cools_28 (by decide) ?_
      refine lv_istore_n (lv' := [(3, .int (0 : Int32)), (0, .ref (ad 99)), (1, .int x1), (2, .int x2)]) hx hb dX12_cools_29 rfl hl (by decide) rfl (fun ls hl => ?_)
      exact tX12_cools_30 N hn X hr fin  N x1 x2 (0 : Int32) q7 H locs ls hI (lv_sub hl [1, 2, 3, 0] rfl) hm
    · have hm := g_t c6 hm
      refine lv_iconst (v := (-1 : Int32)) hx hb dX12_cools_20 (by decide) ?_
      exact rI X hI hr (g_p hm).1 (g_p hm).2 dX12_cools_21
abbrev rmX12_flinches : Room := { frames := 6, cells := 0, slots := 0, locals := 145 }
abbrev cwX12_flinches : Cond := .code yX12_flinches cX12_flinches 3 (some .int)
theorem cmX12_flinches : cwX12_flinches ∈ BIG := (tb8 (List.mem_of_getElem? (i := 57) rfl) rfl)
def fX12_flinches_23 (N : Nat) : Nat → Int32 → Int32 → Mem → Option (Int32 × Mem)
  | 0, _, _, _ => none
  | n + 1, x1, x2, m => if (199 : Int32) < x2 then (some ((-2 : Int32), m)) else ((fX12_passes N (1 : Int32) (0 : Int32) m).bind (fun q7 => if ((6 : Int32) + x1) < 0 ∨ 138 ≤ ((6 : Int32) + x1).toNatClampNeg then none else (if x1 < 0 ∨ 138 ≤ x1.toNatClampNeg then none else (if (q7.1 133 ((6 : Int32) + x1).toNatClampNeg) ≤ (q7.1 133 x1.toNatClampNeg) then (fX12_flinches_23 N n x1 (x2 + (1 : Int32)) q7) else (some (x2, q7))))))
set_option maxHeartbeats 4000000 in
set_option maxRecDepth 100000 in
theorem tX12_flinches_23 (N : Nat) {l : Launch} {D : va_G} {ca : Nat → ClassId} {ad : Nat → Nat} {p : Program} {e : Env} {s : State} {mm : MethodId} {args : Array Value} {below : List Frame} {meth : Method} {c : Code}  (hn : HNr ca) (X : CX p s mm args meth c cX12_flinches 3 RX12 D ca ad (WA ca ad s.heap.size)) (hr : meth.sig.returnType = (some .int)) (fin : (Int32 × Mem))  : ∀ (n : Nat) (x1 : Int32) (x2 : Int32) (m : Mem) (H : Heap) (locs : List Loc) (ls : Array Slot), IW D ca ad (WA ca ad s.heap.size) s m H locs → lv_has ls 3 [(0, .ref (ad 99)), (1, .int x1), (2, .int x2)] → fX12_flinches_23 N n x1 x2 m = some fin → W p l e rmX12_flinches s mm args below meth c H locs 0 0 (MQ below (QI D ca ad s.heap.size fin.1 fin.2) args s 0 0 (WA ca ad s.heap.size)) (F0 mm 23 ls []) := by
  have hx := X.1
  have hb := X.2.1
  intro n
  induction n with
  | zero => intro x1 x2 m H locs ls hI hl hm
            exact absurd hm (by intro q; cases q)
  | succ n ih =>
    intro x1 x2 m H locs ls hI hl hm
    have hm : (if (199 : Int32) < x2 then (some ((-2 : Int32), m)) else ((fX12_passes N (1 : Int32) (0 : Int32) m).bind (fun q7 => if ((6 : Int32) + x1) < 0 ∨ 138 ≤ ((6 : Int32) + x1).toNatClampNeg then none else (if x1 < 0 ∨ 138 ≤ x1.toNatClampNeg then none else (if (q7.1 133 ((6 : Int32) + x1).toNatClampNeg) ≤ (q7.1 133 x1.toNatClampNeg) then (fX12_flinches_23 N n x1 (x2 + (1 : Int32)) q7) else (some (x2, q7))))))) = some fin := hm
    refine lv_iload_n hx hb dX12_flinches_23 rfl (lv_at hl 2 rfl) ?_
    refine lv_sipush (v := (199 : Int32)) hx hb dX12_flinches_24 (by decide) ?_
    refine lv_icmp_gt (tgt := 62) hx hb dX12_flinches_27 (by decide) (fun c6 => ?_) (fun c6 => ?_)
    · have hm := g_t c6 hm
      refine lv_bipush (v := (-2 : Int32)) hx hb dX12_flinches_62 (by decide) ?_
      exact rI X hI hr (g_p hm).1 (g_p hm).2 dX12_flinches_64
    · have hm := g_f c6 hm
      refine lv_aload_n hx hb dX12_flinches_30 rfl (lv_at hl 0 rfl) ?_
      refine lv_iconst (v := (1 : Int32)) hx hb dX12_flinches_31 (by decide) ?_
      refine lv_iconst (v := (0 : Int32)) hx hb dX12_flinches_32 (by decide) ?_
      obtain ⟨q7, h8, hm⟩ := g_b hm
      refine backV X hI (runV X hI (ctX12_passes N (1 : Int32) (0 : Int32)  hn _ _ h8 _) mdX12_409 (la_99 hn) rfl ⟨rfl, rfl⟩ ⟨Nat.le_of_ble_eq_true rfl, Nat.le_of_ble_eq_true rfl⟩ rfl hl.1 rfl (Nat.le_of_ble_eq_true rfl) dX12_flinches_33) (fun H locs hI => ?_)
      refine lv_aload_n hx hb dX12_flinches_36 rfl (lv_at hl 0 rfl) ?_
      refine gR X hI fdX12_114 (la_99 hn) rf12_49 dX12_flinches_37 ?_
      refine lv_bipush (v := (6 : Int32)) hx hb dX12_flinches_40 (by decide) ?_
      refine lv_iload_n hx hb dX12_flinches_42 rfl (lv_at hl 1 rfl) ?_
      refine lv_iadd hx hb dX12_flinches_43 ?_
      obtain ⟨g9, hm⟩ := g_no hm
      refine aI X hI (la_133 hn) g9 dX12_flinches_44 ?_
      refine lv_aload_n hx hb dX12_flinches_45 rfl (lv_at hl 0 rfl) ?_
      refine gR X hI fdX12_114 (la_99 hn) rf12_49 dX12_flinches_46 ?_
      refine lv_iload_n hx hb dX12_flinches_49 rfl (lv_at hl 1 rfl) ?_
      obtain ⟨g10, hm⟩ := g_no hm
      refine aI X hI (la_133 hn) g10 dX12_flinches_50 ?_
      refine lv_icmp_le (tgt := 56) hx hb dX12_flinches_51 (by decide) (fun c11 => ?_) (fun c11 => ?_)
      · have hm := g_t c11 hm
        refine lv_iinc (v := (x2 + (1 : Int32))) (lv' := [(2, .int (x2 + (1 : Int32))), (0, .ref (ad 99)), (1, .int x1)]) hx hb dX12_flinches_56 hl (k := 2) rfl rfl (by decide) rfl (fun ls hl => ?_)
        refine lv_goto (tgt := 23) hx hb dX12_flinches_59 (by decide) ?_
        exact ih x1 (x2 + (1 : Int32)) q7 H locs ls hI (lv_sub hl [1, 2, 0] rfl) hm
      · have hm := g_f c11 hm
        refine lv_iload_n hx hb dX12_flinches_54 rfl (lv_at hl 2 rfl) ?_
        exact rI X hI hr (g_p hm).1 (g_p hm).2 dX12_flinches_55
def fX12_flinches (N : Nat) (x1 : Int32) (m : Mem) : Option (Int32 × Mem) := (fX12_isKnight x1 (mI m 99 0 (0 : Int32))).bind (fun q1 => if q1 = 0 then (some ((-1 : Int32), (mI m 99 0 (0 : Int32)))) else ((fX12_copies N (1 : Int32) (0 : Int32) (mI m 99 0 (0 : Int32))).bind (fun q4 => fX12_flinches_23 N N x1 (1 : Int32) q4)))
set_option maxHeartbeats 4000000 in
set_option maxRecDepth 100000 in
theorem ctX12_flinches {l : Launch} {D : va_G} {ca : Nat → ClassId} {ad : Nat → Nat} (N : Nat) (x1 : Int32)  (hn : HNr ca) (m : Mem) (fin : (Int32 × Mem)) (hm : fX12_flinches N x1 m = some fin) : CI l D ca ad yX12_flinches cwX12_flinches rmX12_flinches [.ref (ad 99), .int x1] m fin.1 fin.2 := by
  refine start (by decide) (Nat.le_of_ble_eq_true rfl) ?_
  intro p e s mm args below meth c H locs ls X hI hr hl
  have X : CX p s mm args meth c cX12_flinches 3 RX12 D ca ad (WA ca ad s.heap.size) := X
  have hx := X.1
  have hb := X.2.1
  have hl : lv_has ls 3 [(0, .ref (ad 99)), (1, .int x1)] := hl
  have hm : ((fX12_isKnight x1 (mI m 99 0 (0 : Int32))).bind (fun q1 => if q1 = 0 then (some ((-1 : Int32), (mI m 99 0 (0 : Int32)))) else ((fX12_copies N (1 : Int32) (0 : Int32) (mI m 99 0 (0 : Int32))).bind (fun q4 => fX12_flinches_23 N N x1 (1 : Int32) q4)))) = some fin := hm
  refine lv_aload_n hx hb dX12_flinches_0 rfl (lv_at hl 0 rfl) ?_
  refine lv_iconst (v := (0 : Int32)) hx hb dX12_flinches_1 (by decide) ?_
  refine pI X hI fpX12_154 (la_99 hn) dX12_flinches_2 (fun H locs hI => ?_)
  refine lv_aload_n hx hb dX12_flinches_5 rfl (lv_at hl 0 rfl) ?_
  refine lv_iload_n hx hb dX12_flinches_6 rfl (lv_at hl 1 rfl) ?_
  obtain ⟨q1, h2, hm⟩ := g_b hm
  refine backI X hI (runV X hI (ctX12_isKnight x1  hn _ _ h2 _) mdX12_419 (la_99 hn) rfl ⟨rfl, rfl⟩ ⟨Nat.le_of_ble_eq_true rfl, Nat.le_of_ble_eq_true rfl⟩ rfl hl.1 rfl (Nat.le_of_ble_eq_true rfl) dX12_flinches_7) (fun H locs hI => ?_)
  refine lv_if_ne (tgt := 15) hx hb dX12_flinches_10 (by decide) (fun c3 => ?_) (fun c3 => ?_)
  · have hm := g_f c3 hm
    refine lv_aload_n hx hb dX12_flinches_15 rfl (lv_at hl 0 rfl) ?_
    refine lv_iconst (v := (1 : Int32)) hx hb dX12_flinches_16 (by decide) ?_
    refine lv_iconst (v := (0 : Int32)) hx hb dX12_flinches_17 (by decide) ?_
    obtain ⟨q4, h5, hm⟩ := g_b hm
    refine backV X hI (runV X hI (ctX12_copies N (1 : Int32) (0 : Int32)  hn _ _ h5 _) mdX12_426 (la_99 hn) rfl ⟨rfl, rfl⟩ ⟨Nat.le_of_ble_eq_true rfl, Nat.le_of_ble_eq_true rfl⟩ rfl hl.1 rfl (Nat.le_of_ble_eq_true rfl) dX12_flinches_18) (fun H locs hI => ?_)
    refine lv_iconst (v := (1 : Int32)) hx hb dX12_flinches_21 (by decide) ?_
    refine lv_istore_n (lv' := [(2, .int (1 : Int32)), (0, .ref (ad 99)), (1, .int x1)]) hx hb dX12_flinches_22 rfl hl (by decide) rfl (fun ls hl => ?_)
    exact tX12_flinches_23 N hn X hr fin  N x1 (1 : Int32) q4 H locs ls hI (lv_sub hl [1, 2, 0] rfl) hm
  · have hm := g_t c3 hm
    refine lv_iconst (v := (-1 : Int32)) hx hb dX12_flinches_13 (by decide) ?_
    exact rI X hI hr (g_p hm).1 (g_p hm).2 dX12_flinches_14
abbrev rmX12_isAhead : Room := { frames := 0, cells := 0, slots := 0, locals := 0 }
def fX12_isAhead  (x1 : Int32) (x2 : Int32) (m : Mem) : Option Int32 := if x1 < 0 ∨ 138 ≤ x1.toNatClampNeg then none else (if x2 < 0 ∨ 138 ≤ x2.toNatClampNeg then none else (if (m.1 132 x1.toNatClampNeg) = (m.1 132 x2.toNatClampNeg) then (if x1 < 0 ∨ 138 ≤ x1.toNatClampNeg then none else (if x2 < 0 ∨ 138 ≤ x2.toNatClampNeg then none else (if (m.1 131 x1.toNatClampNeg) = (m.1 131 x2.toNatClampNeg) then (if x2 ≤ x1 then (some (0 : Int32)) else (some (1 : Int32))) else (if x1 < 0 ∨ 138 ≤ x1.toNatClampNeg then none else (if x2 < 0 ∨ 138 ≤ x2.toNatClampNeg then none else (if (m.1 131 x1.toNatClampNeg) ≤ (m.1 131 x2.toNatClampNeg) then (some (0 : Int32)) else (some (1 : Int32)))))))) else (if x1 < 0 ∨ 138 ≤ x1.toNatClampNeg then none else (if x2 < 0 ∨ 138 ≤ x2.toNatClampNeg then none else (if (m.1 132 x1.toNatClampNeg) ≤ (m.1 132 x2.toNatClampNeg) then (some (0 : Int32)) else (some (1 : Int32)))))))
set_option maxHeartbeats 4000000 in
set_option maxRecDepth 100000 in
theorem ctX12_isAhead {l : Launch} {D : va_G} {ca : Nat → ClassId} {ad : Nat → Nat}  (x1 : Int32) (x2 : Int32)  (hn : HNr ca) (m : Mem) (fin : Int32) (hm : fX12_isAhead x1 x2 m = some fin) : CI l D ca ad yX12_isAhead cwX12_isAhead rmX12_isAhead [.ref (ad 99), .int x1, .int x2] m fin m := by
  refine start (by decide) (Nat.le_of_ble_eq_true rfl) ?_
  intro p e s mm args below meth c H locs ls X hI hr hl
  have X : CX p s mm args meth c cX12_isAhead 3 RX12 D ca ad (WA ca ad s.heap.size) := X
  have hx := X.1
  have hb := X.2.1
  have hl : lv_has ls 3 [(0, .ref (ad 99)), (1, .int x1), (2, .int x2)] := hl
  have hm : (if x1 < 0 ∨ 138 ≤ x1.toNatClampNeg then none else (if x2 < 0 ∨ 138 ≤ x2.toNatClampNeg then none else (if (m.1 132 x1.toNatClampNeg) = (m.1 132 x2.toNatClampNeg) then (if x1 < 0 ∨ 138 ≤ x1.toNatClampNeg then none else (if x2 < 0 ∨ 138 ≤ x2.toNatClampNeg then none else (if (m.1 131 x1.toNatClampNeg) = (m.1 131 x2.toNatClampNeg) then (if x2 ≤ x1 then (some (0 : Int32)) else (some (1 : Int32))) else (if x1 < 0 ∨ 138 ≤ x1.toNatClampNeg then none else (if x2 < 0 ∨ 138 ≤ x2.toNatClampNeg then none else (if (m.1 131 x1.toNatClampNeg) ≤ (m.1 131 x2.toNatClampNeg) then (some (0 : Int32)) else (some (1 : Int32)))))))) else (if x1 < 0 ∨ 138 ≤ x1.toNatClampNeg then none else (if x2 < 0 ∨ 138 ≤ x2.toNatClampNeg then none else (if (m.1 132 x1.toNatClampNeg) ≤ (m.1 132 x2.toNatClampNeg) then (some (0 : Int32)) else (some (1 : Int32)))))))) = some fin := hm
  have hpm : m = m := rfl
  refine lv_aload_n hx hb dX12_isAhead_0 rfl (lv_at hl 0 rfl) ?_
  refine gR X hI fdX12_111 (la_99 hn) rf12_48 dX12_isAhead_1 ?_
  refine lv_iload_n hx hb dX12_isAhead_4 rfl (lv_at hl 1 rfl) ?_
  obtain ⟨g1, hm⟩ := g_no hm
  refine aI X hI (la_132 hn) g1 dX12_isAhead_5 ?_
  refine lv_aload_n hx hb dX12_isAhead_6 rfl (lv_at hl 0 rfl) ?_
  refine gR X hI fdX12_111 (la_99 hn) rf12_48 dX12_isAhead_7 ?_
  refine lv_iload_n hx hb dX12_isAhead_10 rfl (lv_at hl 2 rfl) ?_
  obtain ⟨g2, hm⟩ := g_no hm
  refine aI X hI (la_132 hn) g2 dX12_isAhead_11 ?_
  refine lv_icmp_eq (tgt := 36) hx hb dX12_isAhead_12 (by decide) (fun c3 => ?_) (fun c3 => ?_)
  · have hm := g_t c3 hm
    refine lv_aload_n hx hb dX12_isAhead_36 rfl (lv_at hl 0 rfl) ?_
    refine gR X hI fdX12_108 (la_99 hn) rf12_47 dX12_isAhead_37 ?_
    refine lv_iload_n hx hb dX12_isAhead_40 rfl (lv_at hl 1 rfl) ?_
    obtain ⟨g4, hm⟩ := g_no hm
    refine aI X hI (la_131 hn) g4 dX12_isAhead_41 ?_
    refine lv_aload_n hx hb dX12_isAhead_42 rfl (lv_at hl 0 rfl) ?_
    refine gR X hI fdX12_108 (la_99 hn) rf12_47 dX12_isAhead_43 ?_
    refine lv_iload_n hx hb dX12_isAhead_46 rfl (lv_at hl 2 rfl) ?_
    obtain ⟨g5, hm⟩ := g_no hm
    refine aI X hI (la_131 hn) g5 dX12_isAhead_47 ?_
    refine lv_icmp_eq (tgt := 74) hx hb dX12_isAhead_48 (by decide) (fun c6 => ?_) (fun c6 => ?_)
    · have hm := g_t c6 hm
      refine lv_iload_n hx hb dX12_isAhead_74 rfl (lv_at hl 1 rfl) ?_
      refine lv_iload_n hx hb dX12_isAhead_75 rfl (lv_at hl 2 rfl) ?_
      refine lv_icmp_ge (tgt := 83) hx hb dX12_isAhead_76 (by decide) (fun c7 => ?_) (fun c7 => ?_)
      · have hm := g_t c7 hm
        refine lv_iconst (v := (0 : Int32)) hx hb dX12_isAhead_83 (by decide) ?_
        exact rZ X hI hr (by decide) (g_1 hm) hpm dX12_isAhead_84
      · have hm := g_f c7 hm
        refine lv_iconst (v := (1 : Int32)) hx hb dX12_isAhead_79 (by decide) ?_
        refine lv_goto (tgt := 84) hx hb dX12_isAhead_80 (by decide) ?_
        exact rZ X hI hr (by decide) (g_1 hm) hpm dX12_isAhead_84
    · have hm := g_f c6 hm
      refine lv_aload_n hx hb dX12_isAhead_51 rfl (lv_at hl 0 rfl) ?_
      refine gR X hI fdX12_108 (la_99 hn) rf12_47 dX12_isAhead_52 ?_
      refine lv_iload_n hx hb dX12_isAhead_55 rfl (lv_at hl 1 rfl) ?_
      obtain ⟨g8, hm⟩ := g_no hm
      refine aI X hI (la_131 hn) g8 dX12_isAhead_56 ?_
      refine lv_aload_n hx hb dX12_isAhead_57 rfl (lv_at hl 0 rfl) ?_
      refine gR X hI fdX12_108 (la_99 hn) rf12_47 dX12_isAhead_58 ?_
      refine lv_iload_n hx hb dX12_isAhead_61 rfl (lv_at hl 2 rfl) ?_
      obtain ⟨g9, hm⟩ := g_no hm
      refine aI X hI (la_131 hn) g9 dX12_isAhead_62 ?_
      refine lv_icmp_le (tgt := 70) hx hb dX12_isAhead_63 (by decide) (fun c10 => ?_) (fun c10 => ?_)
      · have hm := g_t c10 hm
        refine lv_iconst (v := (0 : Int32)) hx hb dX12_isAhead_70 (by decide) ?_
        refine lv_goto (tgt := 84) hx hb dX12_isAhead_71 (by decide) ?_
        exact rZ X hI hr (by decide) (g_1 hm) hpm dX12_isAhead_84
      · have hm := g_f c10 hm
        refine lv_iconst (v := (1 : Int32)) hx hb dX12_isAhead_66 (by decide) ?_
        refine lv_goto (tgt := 84) hx hb dX12_isAhead_67 (by decide) ?_
        exact rZ X hI hr (by decide) (g_1 hm) hpm dX12_isAhead_84
  · have hm := g_f c3 hm
    refine lv_aload_n hx hb dX12_isAhead_15 rfl (lv_at hl 0 rfl) ?_
    refine gR X hI fdX12_111 (la_99 hn) rf12_48 dX12_isAhead_16 ?_
    refine lv_iload_n hx hb dX12_isAhead_19 rfl (lv_at hl 1 rfl) ?_
    obtain ⟨g11, hm⟩ := g_no hm
    refine aI X hI (la_132 hn) g11 dX12_isAhead_20 ?_
    refine lv_aload_n hx hb dX12_isAhead_21 rfl (lv_at hl 0 rfl) ?_
    refine gR X hI fdX12_111 (la_99 hn) rf12_48 dX12_isAhead_22 ?_
    refine lv_iload_n hx hb dX12_isAhead_25 rfl (lv_at hl 2 rfl) ?_
    obtain ⟨g12, hm⟩ := g_no hm
    refine aI X hI (la_132 hn) g12 dX12_isAhead_26 ?_
    refine lv_icmp_le (tgt := 34) hx hb dX12_isAhead_27 (by decide) (fun c13 => ?_) (fun c13 => ?_)
    · have hm := g_t c13 hm
      refine lv_iconst (v := (0 : Int32)) hx hb dX12_isAhead_34 (by decide) ?_
      exact rZ X hI hr (by decide) (g_1 hm) hpm dX12_isAhead_35
    · have hm := g_f c13 hm
      refine lv_iconst (v := (1 : Int32)) hx hb dX12_isAhead_30 (by decide) ?_
      refine lv_goto (tgt := 35) hx hb dX12_isAhead_31 (by decide) ?_
      exact rZ X hI hr (by decide) (g_1 hm) hpm dX12_isAhead_35
abbrev rmX12_order : Room := { frames := 1, cells := 0, slots := 0, locals := 22 }
abbrev cwX12_order : Cond := .code yX12_order cX12_order 5 (some .int)
theorem cmX12_order : cwX12_order ∈ BIG := (tb8 (List.mem_of_getElem? (i := 61) rfl) rfl)
def fX12_order_63 (N : Nat) (k13 : Int32 → Int32 → Mem → Option (Int32 × Mem)) (x1 : Int32) (x2 : Int32) (x3 : Int32) (m : Mem) : Option (Int32 × Mem) := if x3 = x1 then (some (x2, m)) else (k13 x1 (x2 + (1 : Int32)) m)
set_option maxHeartbeats 4000000 in
set_option maxRecDepth 100000 in
theorem tX12_order_63 (N : Nat) {l : Launch} {D : va_G} {ca : Nat → ClassId} {ad : Nat → Nat} {p : Program} {e : Env} {s : State} {mm : MethodId} {args : Array Value} {below : List Frame} {meth : Method} {c : Code} {k13 : Int32 → Int32 → Mem → Option (Int32 × Mem)} (hn : HNr ca) (X : CX p s mm args meth c cX12_order 5 RX12 D ca ad (WA ca ad s.heap.size)) (hr : meth.sig.returnType = (some .int)) (fin : (Int32 × Mem)) (hk13 : ∀ (x1 : Int32) (x2 : Int32) (m : Mem) (H : Heap) (locs : List Loc) (ls : Array Slot), IW D ca ad (WA ca ad s.heap.size) s m H locs → lv_has ls 5 [(0, .ref (ad 99)), (1, .int x1), (2, .int x2)] → k13 x1 x2 m = some fin → W p l e rmX12_order s mm args below meth c H locs 0 0 (MQ below (QI D ca ad s.heap.size fin.1 fin.2) args s 0 0 (WA ca ad s.heap.size)) (F0 mm 13 ls [])) : ∀ (x1 : Int32) (x2 : Int32) (x3 : Int32) (m : Mem) (H : Heap) (locs : List Loc) (ls : Array Slot), IW D ca ad (WA ca ad s.heap.size) s m H locs → lv_has ls 5 [(0, .ref (ad 99)), (1, .int x1), (2, .int x2), (3, .int x3)] → fX12_order_63 N k13 x1 x2 x3 m = some fin → W p l e rmX12_order s mm args below meth c H locs 0 0 (MQ below (QI D ca ad s.heap.size fin.1 fin.2) args s 0 0 (WA ca ad s.heap.size)) (F0 mm 63 ls []) := by
  have hx := X.1
  have hb := X.2.1
  intro x1 x2 x3 m H locs ls hI hl hm
  have hm : (if x3 = x1 then (some (x2, m)) else (k13 x1 (x2 + (1 : Int32)) m)) = some fin := hm
  refine lv_iload_n hx hb dX12_order_63 rfl (lv_at hl 3 rfl) ?_
  refine lv_iload_n hx hb dX12_order_64 rfl (lv_at hl 1 rfl) ?_
  refine lv_icmp_ne (tgt := 70) hx hb dX12_order_65 (by decide) (fun c3 => ?_) (fun c3 => ?_)
  · have hm := g_f c3 hm
    refine lv_iinc (v := (x2 + (1 : Int32))) (lv' := [(2, .int (x2 + (1 : Int32))), (0, .ref (ad 99)), (1, .int x1), (3, .int x3)]) hx hb dX12_order_70 hl (k := 2) rfl rfl (by decide) rfl (fun ls hl => ?_)
    refine lv_goto (tgt := 13) hx hb dX12_order_73 (by decide) ?_
    exact hk13 x1 (x2 + (1 : Int32)) m H locs ls hI (lv_sub hl [1, 2, 0] rfl) hm
  · have hm := g_t c3 hm
    refine lv_iload_n hx hb dX12_order_68 rfl (lv_at hl 2 rfl) ?_
    exact rI X hI hr (g_p hm).1 (g_p hm).2 dX12_order_69
def fX12_order_28 (N : Nat) (k63 : Int32 → Int32 → Int32 → Mem → Option (Int32 × Mem)) : Nat → Int32 → Int32 → Int32 → Int32 → Mem → Option (Int32 × Mem)
  | 0, _, _, _, _, _ => none
  | n + 1, x1, x2, x3, x4, m => if (m.1 101 0) ≤ x4 then (k63 x1 x2 x3 m) else ((fX12_isAhead x4 x2 m).bind (fun q5 => if q5 = 0 then (fX12_order_28 N k63 n x1 x2 (x3 + (0 : Int32)) (x4 + (1 : Int32)) m) else (fX12_order_28 N k63 n x1 x2 (x3 + (1 : Int32)) (x4 + (1 : Int32)) m)))
set_option maxHeartbeats 4000000 in
set_option maxRecDepth 100000 in
theorem tX12_order_28 (N : Nat) {l : Launch} {D : va_G} {ca : Nat → ClassId} {ad : Nat → Nat} {p : Program} {e : Env} {s : State} {mm : MethodId} {args : Array Value} {below : List Frame} {meth : Method} {c : Code} {k63 : Int32 → Int32 → Int32 → Mem → Option (Int32 × Mem)} (hn : HNr ca) (X : CX p s mm args meth c cX12_order 5 RX12 D ca ad (WA ca ad s.heap.size)) (hr : meth.sig.returnType = (some .int)) (fin : (Int32 × Mem)) (hk63 : ∀ (x1 : Int32) (x2 : Int32) (x3 : Int32) (m : Mem) (H : Heap) (locs : List Loc) (ls : Array Slot), IW D ca ad (WA ca ad s.heap.size) s m H locs → lv_has ls 5 [(0, .ref (ad 99)), (1, .int x1), (2, .int x2), (3, .int x3)] → k63 x1 x2 x3 m = some fin → W p l e rmX12_order s mm args below meth c H locs 0 0 (MQ below (QI D ca ad s.heap.size fin.1 fin.2) args s 0 0 (WA ca ad s.heap.size)) (F0 mm 63 ls [])) : ∀ (n : Nat) (x1 : Int32) (x2 : Int32) (x3 : Int32) (x4 : Int32) (m : Mem) (H : Heap) (locs : List Loc) (ls : Array Slot), IW D ca ad (WA ca ad s.heap.size) s m H locs → lv_has ls 5 [(0, .ref (ad 99)), (1, .int x1), (2, .int x2), (3, .int x3), (4, .int x4)] → fX12_order_28 N k63 n x1 x2 x3 x4 m = some fin → W p l e rmX12_order s mm args below meth c H locs 0 0 (MQ below (QI D ca ad s.heap.size fin.1 fin.2) args s 0 0 (WA ca ad s.heap.size)) (F0 mm 28 ls []) := by
  have hx := X.1
  have hb := X.2.1
  intro n
  induction n with
  | zero => intro x1 x2 x3 x4 m H locs ls hI hl hm
            exact absurd hm (by intro q; cases q)
  | succ n ih =>
    intro x1 x2 x3 x4 m H locs ls hI hl hm
    have hm : (if (m.1 101 0) ≤ x4 then (k63 x1 x2 x3 m) else ((fX12_isAhead x4 x2 m).bind (fun q5 => if q5 = 0 then (fX12_order_28 N k63 n x1 x2 (x3 + (0 : Int32)) (x4 + (1 : Int32)) m) else (fX12_order_28 N k63 n x1 x2 (x3 + (1 : Int32)) (x4 + (1 : Int32)) m)))) = some fin := hm
    refine lv_iload hx hb dX12_order_28 (lv_at hl 4 rfl) ?_
    refine lv_aload_n hx hb dX12_order_30 rfl (lv_at hl 0 rfl) ?_
    refine gR X hI fdX12_13 (la_99 hn) rf12_3 dX12_order_31 ?_
    refine lv_iconst (v := (0 : Int32)) hx hb dX12_order_34 (by decide) ?_
    refine aIc (j := 0) X hI (la_101 hn) (by decide) (by decide) dX12_order_35 ?_
    refine lv_icmp_ge (tgt := 63) hx hb dX12_order_36 (by decide) (fun c4 => ?_) (fun c4 => ?_)
    · have hm := g_t c4 hm
      exact hk63 x1 x2 x3 m H locs ls hI (lv_sub hl [0, 1, 2, 3] rfl) hm
    · have hm := g_f c4 hm
      refine lv_iload_n hx hb dX12_order_39 rfl (lv_at hl 3 rfl) ?_
      refine lv_aload_n hx hb dX12_order_40 rfl (lv_at hl 0 rfl) ?_
      refine lv_iload hx hb dX12_order_41 (lv_at hl 4 rfl) ?_
      refine lv_iload_n hx hb dX12_order_43 rfl (lv_at hl 2 rfl) ?_
      obtain ⟨q5, h6, hm⟩ := g_b hm
      refine backI X hI (runV X hI (ctX12_isAhead x4 x2  hn _ _ h6 _) mdX12_442 (la_99 hn) rfl ⟨rfl, rfl⟩ ⟨Nat.le_of_ble_eq_true rfl, Nat.le_of_ble_eq_true rfl⟩ rfl hl.1 rfl (Nat.le_of_ble_eq_true rfl) dX12_order_44) (fun H locs hI => ?_)
      refine lv_if_eq (tgt := 54) hx hb dX12_order_47 (by decide) (fun c7 => ?_) (fun c7 => ?_)
      · have hm := g_t c7 hm
        refine lv_iconst (v := (0 : Int32)) hx hb dX12_order_54 (by decide) ?_
        refine lv_iadd hx hb dX12_order_55 ?_
        refine lv_istore_n (lv' := [(3, .int (x3 + (0 : Int32))), (0, .ref (ad 99)), (1, .int x1), (2, .int x2), (4, .int x4)]) hx hb dX12_order_56 rfl hl (by decide) rfl (fun ls hl => ?_)
        refine lv_iinc (v := (x4 + (1 : Int32))) (lv' := [(4, .int (x4 + (1 : Int32))), (3, .int (x3 + (0 : Int32))), (0, .ref (ad 99)), (1, .int x1), (2, .int x2)]) hx hb dX12_order_57 hl (k := 4) rfl rfl (by decide) rfl (fun ls hl => ?_)
        refine lv_goto (tgt := 28) hx hb dX12_order_60 (by decide) ?_
        exact ih x1 x2 (x3 + (0 : Int32)) (x4 + (1 : Int32)) m H locs ls hI (lv_sub hl [2, 3, 4, 1, 0] rfl) hm
      · have hm := g_f c7 hm
        refine lv_iconst (v := (1 : Int32)) hx hb dX12_order_50 (by decide) ?_
        refine lv_goto (tgt := 55) hx hb dX12_order_51 (by decide) ?_
        refine lv_iadd hx hb dX12_order_55 ?_
        refine lv_istore_n (lv' := [(3, .int (x3 + (1 : Int32))), (0, .ref (ad 99)), (1, .int x1), (2, .int x2), (4, .int x4)]) hx hb dX12_order_56 rfl hl (by decide) rfl (fun ls hl => ?_)
        refine lv_iinc (v := (x4 + (1 : Int32))) (lv' := [(4, .int (x4 + (1 : Int32))), (3, .int (x3 + (1 : Int32))), (0, .ref (ad 99)), (1, .int x1), (2, .int x2)]) hx hb dX12_order_57 hl (k := 4) rfl rfl (by decide) rfl (fun ls hl => ?_)
        refine lv_goto (tgt := 28) hx hb dX12_order_60 (by decide) ?_
        exact ih x1 x2 (x3 + (1 : Int32)) (x4 + (1 : Int32)) m H locs ls hI (lv_sub hl [2, 3, 4, 1, 0] rfl) hm
def fX12_order_13 (N : Nat) : Nat → Int32 → Int32 → Mem → Option (Int32 × Mem)
  | 0, _, _, _ => none
  | n + 1, x1, x2, m => if (m.1 101 0) ≤ x2 then (some ((-2 : Int32), m)) else (fX12_order_28 N (fX12_order_63 N (fun x1 x2 m => fX12_order_13 N n x1 x2 m)) N x1 x2 (0 : Int32) (0 : Int32) m)
set_option maxHeartbeats 4000000 in
set_option maxRecDepth 100000 in
theorem tX12_order_13 (N : Nat) {l : Launch} {D : va_G} {ca : Nat → ClassId} {ad : Nat → Nat} {p : Program} {e : Env} {s : State} {mm : MethodId} {args : Array Value} {below : List Frame} {meth : Method} {c : Code}  (hn : HNr ca) (X : CX p s mm args meth c cX12_order 5 RX12 D ca ad (WA ca ad s.heap.size)) (hr : meth.sig.returnType = (some .int)) (fin : (Int32 × Mem))  : ∀ (n : Nat) (x1 : Int32) (x2 : Int32) (m : Mem) (H : Heap) (locs : List Loc) (ls : Array Slot), IW D ca ad (WA ca ad s.heap.size) s m H locs → lv_has ls 5 [(0, .ref (ad 99)), (1, .int x1), (2, .int x2)] → fX12_order_13 N n x1 x2 m = some fin → W p l e rmX12_order s mm args below meth c H locs 0 0 (MQ below (QI D ca ad s.heap.size fin.1 fin.2) args s 0 0 (WA ca ad s.heap.size)) (F0 mm 13 ls []) := by
  have hx := X.1
  have hb := X.2.1
  intro n
  induction n with
  | zero => intro x1 x2 m H locs ls hI hl hm
            exact absurd hm (by intro q; cases q)
  | succ n ih =>
    intro x1 x2 m H locs ls hI hl hm
    have hm : (if (m.1 101 0) ≤ x2 then (some ((-2 : Int32), m)) else (fX12_order_28 N (fX12_order_63 N (fun x1 x2 m => fX12_order_13 N n x1 x2 m)) N x1 x2 (0 : Int32) (0 : Int32) m)) = some fin := hm
    refine lv_iload_n hx hb dX12_order_13 rfl (lv_at hl 2 rfl) ?_
    refine lv_aload_n hx hb dX12_order_14 rfl (lv_at hl 0 rfl) ?_
    refine gR X hI fdX12_13 (la_99 hn) rf12_3 dX12_order_15 ?_
    refine lv_iconst (v := (0 : Int32)) hx hb dX12_order_18 (by decide) ?_
    refine aIc (j := 0) X hI (la_101 hn) (by decide) (by decide) dX12_order_19 ?_
    refine lv_icmp_ge (tgt := 76) hx hb dX12_order_20 (by decide) (fun c2 => ?_) (fun c2 => ?_)
    · have hm := g_t c2 hm
      refine lv_bipush (v := (-2 : Int32)) hx hb dX12_order_76 (by decide) ?_
      exact rI X hI hr (g_p hm).1 (g_p hm).2 dX12_order_78
    · have hm := g_f c2 hm
      refine lv_iconst (v := (0 : Int32)) hx hb dX12_order_23 (by decide) ?_
      refine lv_istore_n (lv' := [(3, .int (0 : Int32)), (0, .ref (ad 99)), (1, .int x1), (2, .int x2)]) hx hb dX12_order_24 rfl hl (by decide) rfl (fun ls hl => ?_)
      refine lv_iconst (v := (0 : Int32)) hx hb dX12_order_25 (by decide) ?_
      refine lv_istore (lv' := [(4, .int (0 : Int32)), (3, .int (0 : Int32)), (0, .ref (ad 99)), (1, .int x1), (2, .int x2)]) hx hb dX12_order_26 hl (by decide) rfl (fun ls hl => ?_)
      exact tX12_order_28 N hn X hr fin (tX12_order_63 N hn X hr fin ih) N x1 x2 (0 : Int32) (0 : Int32) m H locs ls hI (lv_sub hl [2, 3, 4, 1, 0] rfl) hm
def fX12_order (N : Nat) (x1 : Int32) (m : Mem) : Option (Int32 × Mem) := if 0 ≤ x1 then (fX12_order_13 N N x1 (0 : Int32) (mI m 99 0 (0 : Int32))) else (some ((-1 : Int32), (mI m 99 0 (0 : Int32))))
set_option maxHeartbeats 4000000 in
set_option maxRecDepth 100000 in
theorem ctX12_order {l : Launch} {D : va_G} {ca : Nat → ClassId} {ad : Nat → Nat} (N : Nat) (x1 : Int32)  (hn : HNr ca) (m : Mem) (fin : (Int32 × Mem)) (hm : fX12_order N x1 m = some fin) : CI l D ca ad yX12_order cwX12_order rmX12_order [.ref (ad 99), .int x1] m fin.1 fin.2 := by
  refine start (by decide) (Nat.le_of_ble_eq_true rfl) ?_
  intro p e s mm args below meth c H locs ls X hI hr hl
  have X : CX p s mm args meth c cX12_order 5 RX12 D ca ad (WA ca ad s.heap.size) := X
  have hx := X.1
  have hb := X.2.1
  have hl : lv_has ls 5 [(0, .ref (ad 99)), (1, .int x1)] := hl
  have hm : (if 0 ≤ x1 then (fX12_order_13 N N x1 (0 : Int32) (mI m 99 0 (0 : Int32))) else (some ((-1 : Int32), (mI m 99 0 (0 : Int32))))) = some fin := hm
  refine lv_aload_n hx hb dX12_order_0 rfl (lv_at hl 0 rfl) ?_
  refine lv_iconst (v := (0 : Int32)) hx hb dX12_order_1 (by decide) ?_
  refine pI X hI fpX12_154 (la_99 hn) dX12_order_2 (fun H locs hI => ?_)
  refine lv_iload_n hx hb dX12_order_5 rfl (lv_at hl 1 rfl) ?_
  refine lv_if_ge (tgt := 11) hx hb dX12_order_6 (by decide) (fun c1 => ?_) (fun c1 => ?_)
  · have hm := g_t c1 hm
    refine lv_iconst (v := (0 : Int32)) hx hb dX12_order_11 (by decide) ?_
    refine lv_istore_n (lv' := [(2, .int (0 : Int32)), (0, .ref (ad 99)), (1, .int x1)]) hx hb dX12_order_12 rfl hl (by decide) rfl (fun ls hl => ?_)
    exact tX12_order_13 N hn X hr fin  N x1 (0 : Int32) (mI m 99 0 (0 : Int32)) H locs ls hI (lv_sub hl [1, 2, 0] rfl) hm
  · have hm := g_f c1 hm
    refine lv_iconst (v := (-1 : Int32)) hx hb dX12_order_9 (by decide) ?_
    exact rI X hI hr (g_p hm).1 (g_p hm).2 dX12_order_10
abbrev rmX12_addsTo : Room := { frames := 1, cells := 0, slots := 0, locals := 23 }
def fX12_addsTo_17 (N : Nat) : Nat → Int32 → Int32 → Int32 → Mem → Option Int32
  | 0, _, _, _, _ => none
  | n + 1, x1, x2, x3, m => if (60 : Int32) < x3 then (some (-2 : Int32)) else (if x1 < 0 ∨ 138 ≤ x1.toNatClampNeg then none else (if (999 : Int32) < ((m.1 126 x1.toNatClampNeg) + x3) then (some (-2 : Int32)) else (if x1 < 0 ∨ 138 ≤ x1.toNatClampNeg then none else (if x1 < 0 ∨ 138 ≤ x1.toNatClampNeg then none else ((fX12_mixed (m.1 126 x1.toNatClampNeg) (m.1 127 x1.toNatClampNeg) x3 (990 : Int32) m).bind (fun q8 => if q8 < ((10 : Int32) * x2) then (fX12_addsTo_17 N n x1 x2 (x3 + (1 : Int32)) m) else (some x3)))))))
set_option maxHeartbeats 4000000 in
set_option maxRecDepth 100000 in
theorem tX12_addsTo_17 (N : Nat) {l : Launch} {D : va_G} {ca : Nat → ClassId} {ad : Nat → Nat} {p : Program} {e : Env} {s : State} {mm : MethodId} {args : Array Value} {below : List Frame} {meth : Method} {c : Code}  (hn : HNr ca) (X : CX p s mm args meth c cX12_addsTo 4 RX12 D ca ad (WA ca ad s.heap.size)) (hr : meth.sig.returnType = (some .int)) (fin : Int32) (m0 : Mem)  : ∀ (n : Nat) (x1 : Int32) (x2 : Int32) (x3 : Int32) (m : Mem) (H : Heap) (locs : List Loc) (ls : Array Slot), IW D ca ad (WA ca ad s.heap.size) s m H locs → lv_has ls 4 [(0, .ref (ad 99)), (1, .int x1), (2, .int x2), (3, .int x3)] → fX12_addsTo_17 N n x1 x2 x3 m = some fin → m = m0 → W p l e rmX12_addsTo s mm args below meth c H locs 0 0 (MQ below (QI D ca ad s.heap.size fin m0) args s 0 0 (WA ca ad s.heap.size)) (F0 mm 17 ls []) := by
  have hx := X.1
  have hb := X.2.1
  intro n
  induction n with
  | zero => intro x1 x2 x3 m H locs ls hI hl hm hpm
            exact absurd hm (by intro q; cases q)
  | succ n ih =>
    intro x1 x2 x3 m H locs ls hI hl hm hpm
    have hm : (if (60 : Int32) < x3 then (some (-2 : Int32)) else (if x1 < 0 ∨ 138 ≤ x1.toNatClampNeg then none else (if (999 : Int32) < ((m.1 126 x1.toNatClampNeg) + x3) then (some (-2 : Int32)) else (if x1 < 0 ∨ 138 ≤ x1.toNatClampNeg then none else (if x1 < 0 ∨ 138 ≤ x1.toNatClampNeg then none else ((fX12_mixed (m.1 126 x1.toNatClampNeg) (m.1 127 x1.toNatClampNeg) x3 (990 : Int32) m).bind (fun q8 => if q8 < ((10 : Int32) * x2) then (fX12_addsTo_17 N n x1 x2 (x3 + (1 : Int32)) m) else (some x3)))))))) = some fin := hm
    refine lv_iload_n hx hb dX12_addsTo_17 rfl (lv_at hl 3 rfl) ?_
    refine lv_bipush (v := (60 : Int32)) hx hb dX12_addsTo_18 (by decide) ?_
    refine lv_icmp_gt (tgt := 71) hx hb dX12_addsTo_20 (by decide) (fun c3 => ?_) (fun c3 => ?_)
    · have hm := g_t c3 hm
      refine lv_bipush (v := (-2 : Int32)) hx hb dX12_addsTo_71 (by decide) ?_
      exact rI X hI hr (g_1 hm) hpm dX12_addsTo_73
    · have hm := g_f c3 hm
      refine lv_aload_n hx hb dX12_addsTo_23 rfl (lv_at hl 0 rfl) ?_
      refine gR X hI fdX12_93 (la_99 hn) rf12_42 dX12_addsTo_24 ?_
      refine lv_iload_n hx hb dX12_addsTo_27 rfl (lv_at hl 1 rfl) ?_
      obtain ⟨g4, hm⟩ := g_no hm
      refine aI X hI (la_126 hn) g4 dX12_addsTo_28 ?_
      refine lv_iload_n hx hb dX12_addsTo_29 rfl (lv_at hl 3 rfl) ?_
      refine lv_iadd hx hb dX12_addsTo_30 ?_
      refine lv_sipush (v := (999 : Int32)) hx hb dX12_addsTo_31 (by decide) ?_
      refine lv_icmp_gt (tgt := 71) hx hb dX12_addsTo_34 (by decide) (fun c5 => ?_) (fun c5 => ?_)
      · have hm := g_t c5 hm
        refine lv_bipush (v := (-2 : Int32)) hx hb dX12_addsTo_71 (by decide) ?_
        exact rI X hI hr (g_1 hm) hpm dX12_addsTo_73
      · have hm := g_f c5 hm
        refine lv_aload_n hx hb dX12_addsTo_37 rfl (lv_at hl 0 rfl) ?_
        refine gR X hI fdX12_93 (la_99 hn) rf12_42 dX12_addsTo_38 ?_
        refine lv_iload_n hx hb dX12_addsTo_41 rfl (lv_at hl 1 rfl) ?_
        obtain ⟨g6, hm⟩ := g_no hm
        refine aI X hI (la_126 hn) g6 dX12_addsTo_42 ?_
        refine lv_aload_n hx hb dX12_addsTo_43 rfl (lv_at hl 0 rfl) ?_
        refine gR X hI fdX12_96 (la_99 hn) rf12_43 dX12_addsTo_44 ?_
        refine lv_iload_n hx hb dX12_addsTo_47 rfl (lv_at hl 1 rfl) ?_
        obtain ⟨g7, hm⟩ := g_no hm
        refine aI X hI (la_127 hn) g7 dX12_addsTo_48 ?_
        refine lv_iload_n hx hb dX12_addsTo_49 rfl (lv_at hl 3 rfl) ?_
        refine lv_sipush (v := (990 : Int32)) hx hb dX12_addsTo_50 (by decide) ?_
        obtain ⟨q8, h9, hm⟩ := g_b hm
        refine backI X hI (runS X hI (ctX12_mixed (m.1 126 x1.toNatClampNeg) (m.1 127 x1.toNatClampNeg) x3 (990 : Int32)  hn _ _ h9 _) msX12_360 ⟨rfl, rfl⟩ ⟨Nat.le_of_ble_eq_true rfl, Nat.le_of_ble_eq_true rfl⟩ rfl hl.1 rfl (Nat.le_of_ble_eq_true rfl) dX12_addsTo_53) (fun H locs hI => ?_)
        refine lv_bipush (v := (10 : Int32)) hx hb dX12_addsTo_56 (by decide) ?_
        refine lv_iload_n hx hb dX12_addsTo_58 rfl (lv_at hl 2 rfl) ?_
        refine lv_imul hx hb dX12_addsTo_59 ?_
        refine lv_icmp_lt (tgt := 65) hx hb dX12_addsTo_60 (by decide) (fun c10 => ?_) (fun c10 => ?_)
        · have hm := g_t c10 hm
          refine lv_iinc (v := (x3 + (1 : Int32))) (lv' := [(3, .int (x3 + (1 : Int32))), (0, .ref (ad 99)), (1, .int x1), (2, .int x2)]) hx hb dX12_addsTo_65 hl (k := 3) rfl rfl (by decide) rfl (fun ls hl => ?_)
          refine lv_goto (tgt := 17) hx hb dX12_addsTo_68 (by decide) ?_
          exact ih x1 x2 (x3 + (1 : Int32)) m H locs ls hI (lv_sub hl [1, 2, 3, 0] rfl) hm hpm
        · have hm := g_f c10 hm
          refine lv_iload_n hx hb dX12_addsTo_63 rfl (lv_at hl 3 rfl) ?_
          exact rI X hI hr (g_1 hm) hpm dX12_addsTo_64
def fX12_addsTo (N : Nat) (x1 : Int32) (x2 : Int32) (m : Mem) : Option Int32 := if x1 < 0 ∨ 138 ≤ x1.toNatClampNeg then none else (if (m.1 127 x1.toNatClampNeg) < ((10 : Int32) * x2) then (fX12_addsTo_17 N N x1 x2 (1 : Int32) m) else (some (0 : Int32)))
set_option maxHeartbeats 4000000 in
set_option maxRecDepth 100000 in
theorem ctX12_addsTo {l : Launch} {D : va_G} {ca : Nat → ClassId} {ad : Nat → Nat} (N : Nat) (x1 : Int32) (x2 : Int32)  (hn : HNr ca) (m : Mem) (fin : Int32) (hm : fX12_addsTo N x1 x2 m = some fin) : CI l D ca ad yX12_addsTo cwX12_addsTo rmX12_addsTo [.ref (ad 99), .int x1, .int x2] m fin m := by
  refine start (by decide) (Nat.le_of_ble_eq_true rfl) ?_
  intro p e s mm args below meth c H locs ls X hI hr hl
  have X : CX p s mm args meth c cX12_addsTo 4 RX12 D ca ad (WA ca ad s.heap.size) := X
  have hx := X.1
  have hb := X.2.1
  have hl : lv_has ls 4 [(0, .ref (ad 99)), (1, .int x1), (2, .int x2)] := hl
  have hm : (if x1 < 0 ∨ 138 ≤ x1.toNatClampNeg then none else (if (m.1 127 x1.toNatClampNeg) < ((10 : Int32) * x2) then (fX12_addsTo_17 N N x1 x2 (1 : Int32) m) else (some (0 : Int32)))) = some fin := hm
  have hpm : m = m := rfl
  refine lv_aload_n hx hb dX12_addsTo_0 rfl (lv_at hl 0 rfl) ?_
  refine gR X hI fdX12_96 (la_99 hn) rf12_43 dX12_addsTo_1 ?_
  refine lv_iload_n hx hb dX12_addsTo_4 rfl (lv_at hl 1 rfl) ?_
  obtain ⟨g1, hm⟩ := g_no hm
  refine aI X hI (la_127 hn) g1 dX12_addsTo_5 ?_
  refine lv_bipush (v := (10 : Int32)) hx hb dX12_addsTo_6 (by decide) ?_
  refine lv_iload_n hx hb dX12_addsTo_8 rfl (lv_at hl 2 rfl) ?_
  refine lv_imul hx hb dX12_addsTo_9 ?_
  refine lv_icmp_lt (tgt := 15) hx hb dX12_addsTo_10 (by decide) (fun c2 => ?_) (fun c2 => ?_)
  · have hm := g_t c2 hm
    refine lv_iconst (v := (1 : Int32)) hx hb dX12_addsTo_15 (by decide) ?_
    refine lv_istore_n (lv' := [(3, .int (1 : Int32)), (0, .ref (ad 99)), (1, .int x1), (2, .int x2)]) hx hb dX12_addsTo_16 rfl hl (by decide) rfl (fun ls hl => ?_)
    exact tX12_addsTo_17 N hn X hr fin m  N x1 x2 (1 : Int32) m H locs ls hI (lv_sub hl [1, 2, 3, 0] rfl) hm hpm
  · have hm := g_f c2 hm
    refine lv_iconst (v := (0 : Int32)) hx hb dX12_addsTo_13 (by decide) ?_
    exact rI X hI hr (g_1 hm) hpm dX12_addsTo_14
abbrev rmX12_addFor : Room := { frames := 2, cells := 0, slots := 0, locals := 46 }
abbrev cwX12_addFor : Cond := .code yX12_addFor cX12_addFor 3 (some .int)
theorem cmX12_addFor : cwX12_addFor ∈ BIG := (tb8 (List.mem_of_getElem? (i := 69) rfl) rfl)
def fX12_addFor (N : Nat) (x1 : Int32) (x2 : Int32) (m : Mem) : Option (Int32 × Mem) := (fX12_isTub x1 (mI m 99 0 (0 : Int32))).bind (fun q1 => if q1 = 0 then (some ((-1 : Int32), (mI m 99 0 (0 : Int32)))) else ((fX12_areDegrees x2 (mI m 99 0 (0 : Int32))).bind (fun q4 => if q4 = 0 then (some ((-1 : Int32), (mI m 99 0 (0 : Int32)))) else ((fX12_addsTo N x1 x2 (mI m 99 0 (0 : Int32))).bind (fun q7 => some (q7, (mI m 99 0 (0 : Int32))))))))
set_option maxHeartbeats 4000000 in
set_option maxRecDepth 100000 in
theorem ctX12_addFor {l : Launch} {D : va_G} {ca : Nat → ClassId} {ad : Nat → Nat} (N : Nat) (x1 : Int32) (x2 : Int32)  (hn : HNr ca) (m : Mem) (fin : (Int32 × Mem)) (hm : fX12_addFor N x1 x2 m = some fin) : CI l D ca ad yX12_addFor cwX12_addFor rmX12_addFor [.ref (ad 99), .int x1, .int x2] m fin.1 fin.2 := by
  refine start (by decide) (Nat.le_of_ble_eq_true rfl) ?_
  intro p e s mm args below meth c H locs ls X hI hr hl
  have X : CX p s mm args meth c cX12_addFor 3 RX12 D ca ad (WA ca ad s.heap.size) := X
  have hx := X.1
  have hb := X.2.1
  have hl : lv_has ls 3 [(0, .ref (ad 99)), (1, .int x1), (2, .int x2)] := hl
  have hm : ((fX12_isTub x1 (mI m 99 0 (0 : Int32))).bind (fun q1 => if q1 = 0 then (some ((-1 : Int32), (mI m 99 0 (0 : Int32)))) else ((fX12_areDegrees x2 (mI m 99 0 (0 : Int32))).bind (fun q4 => if q4 = 0 then (some ((-1 : Int32), (mI m 99 0 (0 : Int32)))) else ((fX12_addsTo N x1 x2 (mI m 99 0 (0 : Int32))).bind (fun q7 => some (q7, (mI m 99 0 (0 : Int32))))))))) = some fin := hm
  refine lv_aload_n hx hb dX12_addFor_0 rfl (lv_at hl 0 rfl) ?_
  refine lv_iconst (v := (0 : Int32)) hx hb dX12_addFor_1 (by decide) ?_
  refine pI X hI fpX12_154 (la_99 hn) dX12_addFor_2 (fun H locs hI => ?_)
  refine lv_aload_n hx hb dX12_addFor_5 rfl (lv_at hl 0 rfl) ?_
  refine lv_iload_n hx hb dX12_addFor_6 rfl (lv_at hl 1 rfl) ?_
  obtain ⟨q1, h2, hm⟩ := g_b hm
  refine backI X hI (runV X hI (ctX12_isTub x1  hn _ _ h2 _) mdX12_413 (la_99 hn) rfl ⟨rfl, rfl⟩ ⟨Nat.le_of_ble_eq_true rfl, Nat.le_of_ble_eq_true rfl⟩ rfl hl.1 rfl (Nat.le_of_ble_eq_true rfl) dX12_addFor_7) (fun H locs hI => ?_)
  refine lv_if_eq (tgt := 29) hx hb dX12_addFor_10 (by decide) (fun c3 => ?_) (fun c3 => ?_)
  · have hm := g_t c3 hm
    refine lv_iconst (v := (-1 : Int32)) hx hb dX12_addFor_29 (by decide) ?_
    exact rI X hI hr (g_p hm).1 (g_p hm).2 dX12_addFor_30
  · have hm := g_f c3 hm
    refine lv_iload_n hx hb dX12_addFor_13 rfl (lv_at hl 2 rfl) ?_
    obtain ⟨q4, h5, hm⟩ := g_b hm
    refine backI X hI (runS X hI (ctX12_areDegrees x2  hn _ _ h5 _) msX12_439 ⟨rfl, rfl⟩ ⟨Nat.le_of_ble_eq_true rfl, Nat.le_of_ble_eq_true rfl⟩ rfl hl.1 rfl (Nat.le_of_ble_eq_true rfl) dX12_addFor_14) (fun H locs hI => ?_)
    refine lv_if_eq (tgt := 29) hx hb dX12_addFor_17 (by decide) (fun c6 => ?_) (fun c6 => ?_)
    · have hm := g_t c6 hm
      refine lv_iconst (v := (-1 : Int32)) hx hb dX12_addFor_29 (by decide) ?_
      exact rI X hI hr (g_p hm).1 (g_p hm).2 dX12_addFor_30
    · have hm := g_f c6 hm
      refine lv_aload_n hx hb dX12_addFor_20 rfl (lv_at hl 0 rfl) ?_
      refine lv_iload_n hx hb dX12_addFor_21 rfl (lv_at hl 1 rfl) ?_
      refine lv_iload_n hx hb dX12_addFor_22 rfl (lv_at hl 2 rfl) ?_
      obtain ⟨q7, h8, hm⟩ := g_b hm
      refine backI X hI (runV X hI (ctX12_addsTo N x1 x2  hn _ _ h8 _) mdX12_446 (la_99 hn) rfl ⟨rfl, rfl⟩ ⟨Nat.le_of_ble_eq_true rfl, Nat.le_of_ble_eq_true rfl⟩ rfl hl.1 rfl (Nat.le_of_ble_eq_true rfl) dX12_addFor_23) (fun H locs hI => ?_)
      refine lv_goto (tgt := 30) hx hb dX12_addFor_26 (by decide) ?_
      exact rI X hI hr (g_p hm).1 (g_p hm).2 dX12_addFor_30
abbrev rmX12_coal : Room := { frames := 2, cells := 0, slots := 0, locals := 46 }
abbrev cwX12_coal : Cond := .code yX12_coal cX12_coal 5 (some .int)
theorem cmX12_coal : cwX12_coal ∈ BIG := (tb8 (List.mem_of_getElem? (i := 77) rfl) rfl)
def fX12_coal_18 (N : Nat) : Nat → Int32 → Int32 → Int32 → Mem → Option (Int32 × Mem)
  | 0, _, _, _, _ => none
  | n + 1, x1, x2, x3, m => if (m.1 101 1) ≤ x3 then (some (x2, m)) else ((fX12_addsTo N x3 x1 m).bind (fun q5 => if 0 ≤ q5 then (fX12_coal_18 N n x1 (x2 + q5) (x3 + (1 : Int32)) m) else (some ((-2 : Int32), m))))
set_option maxHeartbeats 4000000 in
set_option maxRecDepth 100000 in
theorem tX12_coal_18 (N : Nat) {l : Launch} {D : va_G} {ca : Nat → ClassId} {ad : Nat → Nat} {p : Program} {e : Env} {s : State} {mm : MethodId} {args : Array Value} {below : List Frame} {meth : Method} {c : Code}  (hn : HNr ca) (X : CX p s mm args meth c cX12_coal 5 RX12 D ca ad (WA ca ad s.heap.size)) (hr : meth.sig.returnType = (some .int)) (fin : (Int32 × Mem))  : ∀ (n : Nat) (x1 : Int32) (x2 : Int32) (x3 : Int32) (m : Mem) (H : Heap) (locs : List Loc) (ls : Array Slot), IW D ca ad (WA ca ad s.heap.size) s m H locs → lv_has ls 5 [(0, .ref (ad 99)), (1, .int x1), (2, .int x2), (3, .int x3)] → fX12_coal_18 N n x1 x2 x3 m = some fin → W p l e rmX12_coal s mm args below meth c H locs 0 0 (MQ below (QI D ca ad s.heap.size fin.1 fin.2) args s 0 0 (WA ca ad s.heap.size)) (F0 mm 18 ls []) := by
  have hx := X.1
  have hb := X.2.1
  intro n
  induction n with
  | zero => intro x1 x2 x3 m H locs ls hI hl hm
            exact absurd hm (by intro q; cases q)
  | succ n ih =>
    intro x1 x2 x3 m H locs ls hI hl hm
    have hm : (if (m.1 101 1) ≤ x3 then (some (x2, m)) else ((fX12_addsTo N x3 x1 m).bind (fun q5 => if 0 ≤ q5 then (fX12_coal_18 N n x1 (x2 + q5) (x3 + (1 : Int32)) m) else (some ((-2 : Int32), m))))) = some fin := hm
    refine lv_iload_n hx hb dX12_coal_18 rfl (lv_at hl 3 rfl) ?_
    refine lv_aload_n hx hb dX12_coal_19 rfl (lv_at hl 0 rfl) ?_
    refine gR X hI fdX12_13 (la_99 hn) rf12_3 dX12_coal_20 ?_
    refine lv_iconst (v := (1 : Int32)) hx hb dX12_coal_23 (by decide) ?_
    refine aIc (j := 1) X hI (la_101 hn) (by decide) (by decide) dX12_coal_24 ?_
    refine lv_icmp_ge (tgt := 55) hx hb dX12_coal_25 (by decide) (fun c4 => ?_) (fun c4 => ?_)
    · have hm := g_t c4 hm
      refine lv_iload_n hx hb dX12_coal_55 rfl (lv_at hl 2 rfl) ?_
      exact rI X hI hr (g_p hm).1 (g_p hm).2 dX12_coal_56
    · have hm := g_f c4 hm
      refine lv_aload_n hx hb dX12_coal_28 rfl (lv_at hl 0 rfl) ?_
      refine lv_iload_n hx hb dX12_coal_29 rfl (lv_at hl 3 rfl) ?_
      refine lv_iload_n hx hb dX12_coal_30 rfl (lv_at hl 1 rfl) ?_
      obtain ⟨q5, h6, hm⟩ := g_b hm
      refine backI X hI (runV X hI (ctX12_addsTo N x3 x1  hn _ _ h6 _) mdX12_446 (la_99 hn) rfl ⟨rfl, rfl⟩ ⟨Nat.le_of_ble_eq_true rfl, Nat.le_of_ble_eq_true rfl⟩ rfl hl.1 rfl (Nat.le_of_ble_eq_true rfl) dX12_coal_31) (fun H locs hI => ?_)
      refine lv_istore (lv' := [(4, .int q5), (0, .ref (ad 99)), (1, .int x1), (2, .int x2), (3, .int x3)]) hx hb dX12_coal_34 hl (by decide) rfl (fun ls hl => ?_)
      refine lv_iload hx hb dX12_coal_36 (lv_at hl 0 rfl) ?_
      refine lv_if_ge (tgt := 44) hx hb dX12_coal_38 (by decide) (fun c7 => ?_) (fun c7 => ?_)
      · have hm := g_t c7 hm
        refine lv_iload_n hx hb dX12_coal_44 rfl (lv_at hl 3 rfl) ?_
        refine lv_iload hx hb dX12_coal_45 (lv_at hl 0 rfl) ?_
        refine lv_iadd hx hb dX12_coal_47 ?_
        refine lv_istore_n (lv' := [(2, .int (x2 + q5)), (4, .int q5), (0, .ref (ad 99)), (1, .int x1), (3, .int x3)]) hx hb dX12_coal_48 rfl hl (by decide) rfl (fun ls hl => ?_)
        refine lv_iinc (v := (x3 + (1 : Int32))) (lv' := [(3, .int (x3 + (1 : Int32))), (2, .int (x2 + q5)), (4, .int q5), (0, .ref (ad 99)), (1, .int x1)]) hx hb dX12_coal_49 hl (k := 4) rfl rfl (by decide) rfl (fun ls hl => ?_)
        refine lv_goto (tgt := 18) hx hb dX12_coal_52 (by decide) ?_
        exact ih x1 (x2 + q5) (x3 + (1 : Int32)) m H locs ls hI (lv_sub hl [3, 4, 1, 0] rfl) hm
      · have hm := g_f c7 hm
        refine lv_bipush (v := (-2 : Int32)) hx hb dX12_coal_41 (by decide) ?_
        exact rI X hI hr (g_p hm).1 (g_p hm).2 dX12_coal_43
def fX12_coal (N : Nat) (x1 : Int32) (m : Mem) : Option (Int32 × Mem) := (fX12_areDegrees x1 (mI m 99 0 (0 : Int32))).bind (fun q1 => if q1 = 0 then (some ((-1 : Int32), (mI m 99 0 (0 : Int32)))) else (fX12_coal_18 N N x1 (0 : Int32) (0 : Int32) (mI m 99 0 (0 : Int32))))
set_option maxHeartbeats 4000000 in
set_option maxRecDepth 100000 in
theorem ctX12_coal {l : Launch} {D : va_G} {ca : Nat → ClassId} {ad : Nat → Nat} (N : Nat) (x1 : Int32)  (hn : HNr ca) (m : Mem) (fin : (Int32 × Mem)) (hm : fX12_coal N x1 m = some fin) : CI l D ca ad yX12_coal cwX12_coal rmX12_coal [.ref (ad 99), .int x1] m fin.1 fin.2 := by
  refine start (by decide) (Nat.le_of_ble_eq_true rfl) ?_
  intro p e s mm args below meth c H locs ls X hI hr hl
  have X : CX p s mm args meth c cX12_coal 5 RX12 D ca ad (WA ca ad s.heap.size) := X
  have hx := X.1
  have hb := X.2.1
  have hl : lv_has ls 5 [(0, .ref (ad 99)), (1, .int x1)] := hl
  have hm : ((fX12_areDegrees x1 (mI m 99 0 (0 : Int32))).bind (fun q1 => if q1 = 0 then (some ((-1 : Int32), (mI m 99 0 (0 : Int32)))) else (fX12_coal_18 N N x1 (0 : Int32) (0 : Int32) (mI m 99 0 (0 : Int32))))) = some fin := hm
  refine lv_aload_n hx hb dX12_coal_0 rfl (lv_at hl 0 rfl) ?_
  refine lv_iconst (v := (0 : Int32)) hx hb dX12_coal_1 (by decide) ?_
  refine pI X hI fpX12_154 (la_99 hn) dX12_coal_2 (fun H locs hI => ?_)
  refine lv_iload_n hx hb dX12_coal_5 rfl (lv_at hl 1 rfl) ?_
  obtain ⟨q1, h2, hm⟩ := g_b hm
  refine backI X hI (runS X hI (ctX12_areDegrees x1  hn _ _ h2 _) msX12_439 ⟨rfl, rfl⟩ ⟨Nat.le_of_ble_eq_true rfl, Nat.le_of_ble_eq_true rfl⟩ rfl hl.1 rfl (Nat.le_of_ble_eq_true rfl) dX12_coal_6) (fun H locs hI => ?_)
  refine lv_if_ne (tgt := 14) hx hb dX12_coal_9 (by decide) (fun c3 => ?_) (fun c3 => ?_)
  · have hm := g_f c3 hm
    refine lv_iconst (v := (0 : Int32)) hx hb dX12_coal_14 (by decide) ?_
    refine lv_istore_n (lv' := [(2, .int (0 : Int32)), (0, .ref (ad 99)), (1, .int x1)]) hx hb dX12_coal_15 rfl hl (by decide) rfl (fun ls hl => ?_)
    refine lv_iconst (v := (0 : Int32)) hx hb dX12_coal_16 (by decide) ?_
    refine lv_istore_n (lv' := [(3, .int (0 : Int32)), (2, .int (0 : Int32)), (0, .ref (ad 99)), (1, .int x1)]) hx hb dX12_coal_17 rfl hl (by decide) rfl (fun ls hl => ?_)
    exact tX12_coal_18 N hn X hr fin  N x1 (0 : Int32) (0 : Int32) (mI m 99 0 (0 : Int32)) H locs ls hI (lv_sub hl [2, 3, 1, 0] rfl) hm
  · have hm := g_t c3 hm
    refine lv_iconst (v := (-1 : Int32)) hx hb dX12_coal_12 (by decide) ?_
    exact rI X hI hr (g_p hm).1 (g_p hm).2 dX12_coal_13
abbrev rmX12_common : Room := { frames := 0, cells := 0, slots := 0, locals := 0 }
def fX12_common_6 (N : Nat) : Nat → Int64 → Int64 → Mem → Option Int64
  | 0, _, _, _ => none
  | n + 1, x4, x6, m => if (lg_cmp x6 (0 : Int64)) = 0 then (some x4) else (if x6 = 0 then none else (fX12_common_6 N n x6 (jremL x4 x6) m))
set_option maxHeartbeats 4000000 in
set_option maxRecDepth 100000 in
theorem tX12_common_6 (N : Nat) {l : Launch} {D : va_G} {ca : Nat → ClassId} {ad : Nat → Nat} {p : Program} {e : Env} {s : State} {mm : MethodId} {args : Array Value} {below : List Frame} {meth : Method} {c : Code}  (hn : HNr ca) (X : CX p s mm args meth c cX12_common 10 RX12 D ca ad (WA ca ad s.heap.size)) (hr : meth.sig.returnType = (some .long)) (fin : Int64) (m0 : Mem)  : ∀ (n : Nat) (x4 : Int64) (x6 : Int64) (m : Mem) (H : Heap) (locs : List Loc) (ls : Array Slot), IW D ca ad (WA ca ad s.heap.size) s m H locs → lv_has ls 10 [(4, .long x4), (6, .long x6)] → fX12_common_6 N n x4 x6 m = some fin → m = m0 → W p l e rmX12_common s mm args below meth c H locs 0 0 (MQ below (QL D ca ad s.heap.size fin m0) args s 0 0 (WA ca ad s.heap.size)) (F0 mm 6 ls []) := by
  have hx := X.1
  have hb := X.2.1
  intro n
  induction n with
  | zero => intro x4 x6 m H locs ls hI hl hm hpm
            exact absurd hm (by intro q; cases q)
  | succ n ih =>
    intro x4 x6 m H locs ls hI hl hm hpm
    have hm : (if (lg_cmp x6 (0 : Int64)) = 0 then (some x4) else (if x6 = 0 then none else (fX12_common_6 N n x6 (jremL x4 x6) m))) = some fin := hm
    refine lv_lload hx hb dX12_common_6 (lv_at hl 1 rfl) ?_
    refine lv_lconst (v := (0 : Int64)) hx hb dX12_common_8 (by decide) ?_
    refine W.lcmp hx hb dX12_common_9 ?_
    refine lv_if_eq (tgt := 31) hx hb dX12_common_10 (by decide) (fun c1 => ?_) (fun c1 => ?_)
    · have hm := g_t c1 hm
      refine lv_lload hx hb dX12_common_31 (lv_at hl 0 rfl) ?_
      exact rL X hI hr (g_1 hm) hpm dX12_common_33
    · have hm := g_f c1 hm
      refine lv_lload hx hb dX12_common_13 (lv_at hl 0 rfl) ?_
      refine lv_lload hx hb dX12_common_15 (lv_at hl 1 rfl) ?_
      obtain ⟨g2, hm⟩ := g_no hm
      refine kRemL hx hb dX12_common_17 g2 ?_
      refine lv_lstore (lv' := [(8, .long (jremL x4 x6)), (4, .long x4), (6, .long x6)]) hx hb dX12_common_18 hl (by decide) rfl (fun ls hl => ?_)
      refine lv_lload hx hb dX12_common_20 (lv_at hl 2 rfl) ?_
      refine lv_lstore (lv' := [(4, .long x6), (8, .long (jremL x4 x6)), (6, .long x6)]) hx hb dX12_common_22 hl (by decide) rfl (fun ls hl => ?_)
      refine lv_lload hx hb dX12_common_24 (lv_at hl 1 rfl) ?_
      refine lv_lstore (lv' := [(6, .long (jremL x4 x6)), (4, .long x6), (8, .long (jremL x4 x6))]) hx hb dX12_common_26 hl (by decide) rfl (fun ls hl => ?_)
      refine lv_goto (tgt := 6) hx hb dX12_common_28 (by decide) ?_
      exact ih x6 (jremL x4 x6) m H locs ls hI (lv_sub hl [1, 0] rfl) hm hpm
def fX12_common (N : Nat) (x0 : Int64) (x2 : Int64) (m : Mem) : Option Int64 := fX12_common_6 N N x0 x2 m
set_option maxHeartbeats 4000000 in
set_option maxRecDepth 100000 in
theorem ctX12_common {l : Launch} {D : va_G} {ca : Nat → ClassId} {ad : Nat → Nat} (N : Nat) (x0 : Int64) (x2 : Int64)  (hn : HNr ca) (m : Mem) (fin : Int64) (hm : fX12_common N x0 x2 m = some fin) : CL l D ca ad yX12_common cwX12_common rmX12_common [.long x0, .long x2] m fin m := by
  refine start (by decide) (Nat.le_of_ble_eq_true rfl) ?_
  intro p e s mm args below meth c H locs ls X hI hr hl
  have X : CX p s mm args meth c cX12_common 10 RX12 D ca ad (WA ca ad s.heap.size) := X
  have hx := X.1
  have hb := X.2.1
  have hl : lv_has ls 10 [(0, .long x0), (2, .long x2)] := hl
  have hm : (fX12_common_6 N N x0 x2 m) = some fin := hm
  have hpm : m = m := rfl
  refine lv_lload_n hx hb dX12_common_0 rfl (lv_at hl 0 rfl) ?_
  refine lv_lstore (lv' := [(4, .long x0), (0, .long x0), (2, .long x2)]) hx hb dX12_common_1 hl (by decide) rfl (fun ls hl => ?_)
  refine lv_lload_n hx hb dX12_common_3 rfl (lv_at hl 2 rfl) ?_
  refine lv_lstore (lv' := [(6, .long x2), (4, .long x0), (0, .long x0), (2, .long x2)]) hx hb dX12_common_4 hl (by decide) rfl (fun ls hl => ?_)
  exact tX12_common_6 N hn X hr fin m  N x0 x2 m H locs ls hI (lv_sub hl [1, 0] rfl) hm hpm
abbrev rmX12_together : Room := { frames := 1, cells := 0, slots := 0, locals := 29 }
abbrev cwX12_together : Cond := .code yX12_together cX12_together 6 (some .int)
theorem cmX12_together : cwX12_together ∈ BIG := (tb8 (List.mem_of_getElem? (i := 81) rfl) rfl)
def fX12_together_41 (N : Nat) : Nat → Int32 → Int32 → Int32 → Int32 → Int32 → Mem → Option (Int32 × Mem)
  | 0, _, _, _, _, _, _ => none
  | n + 1, x1, x2, x3, x4, x5, m => if (m.1 101 1) ≤ x5 then ((fX12_common N x3.toInt64 x4.toInt64 m).bind (fun q6 => if x2 = 0 then (if q6.toInt32 = 0 then none else (some ((x3 / q6.toInt32), m))) else (if q6.toInt32 = 0 then none else (some ((x4 / q6.toInt32), m))))) else (if ((x1 >>> (x5 &&& 31)) &&& (1 : Int32)) = 0 then (fX12_together_41 N n x1 x2 x3 x4 (x5 + (1 : Int32)) m) else (if x5 < 0 ∨ 138 ≤ x5.toNatClampNeg then none else (if x5 < 0 ∨ 138 ≤ x5.toNatClampNeg then none else (if x5 < 0 ∨ 138 ≤ x5.toNatClampNeg then none else (fX12_together_41 N n x1 x2 (x3 + ((m.1 126 x5.toNatClampNeg) * (m.1 127 x5.toNatClampNeg))) (x4 + (m.1 126 x5.toNatClampNeg)) (x5 + (1 : Int32)) m)))))
set_option maxHeartbeats 4000000 in
set_option maxRecDepth 100000 in
theorem tX12_together_41 (N : Nat) {l : Launch} {D : va_G} {ca : Nat → ClassId} {ad : Nat → Nat} {p : Program} {e : Env} {s : State} {mm : MethodId} {args : Array Value} {below : List Frame} {meth : Method} {c : Code}  (hn : HNr ca) (X : CX p s mm args meth c cX12_together 6 RX12 D ca ad (WA ca ad s.heap.size)) (hr : meth.sig.returnType = (some .int)) (fin : (Int32 × Mem))  : ∀ (n : Nat) (x1 : Int32) (x2 : Int32) (x3 : Int32) (x4 : Int32) (x5 : Int32) (m : Mem) (H : Heap) (locs : List Loc) (ls : Array Slot), IW D ca ad (WA ca ad s.heap.size) s m H locs → lv_has ls 6 [(0, .ref (ad 99)), (1, .int x1), (2, .int x2), (3, .int x3), (4, .int x4), (5, .int x5)] → fX12_together_41 N n x1 x2 x3 x4 x5 m = some fin → W p l e rmX12_together s mm args below meth c H locs 0 0 (MQ below (QI D ca ad s.heap.size fin.1 fin.2) args s 0 0 (WA ca ad s.heap.size)) (F0 mm 41 ls []) := by
  have hx := X.1
  have hb := X.2.1
  intro n
  induction n with
  | zero => intro x1 x2 x3 x4 x5 m H locs ls hI hl hm
            exact absurd hm (by intro q; cases q)
  | succ n ih =>
    intro x1 x2 x3 x4 x5 m H locs ls hI hl hm
    have hm : (if (m.1 101 1) ≤ x5 then ((fX12_common N x3.toInt64 x4.toInt64 m).bind (fun q6 => if x2 = 0 then (if q6.toInt32 = 0 then none else (some ((x3 / q6.toInt32), m))) else (if q6.toInt32 = 0 then none else (some ((x4 / q6.toInt32), m))))) else (if ((x1 >>> (x5 &&& 31)) &&& (1 : Int32)) = 0 then (fX12_together_41 N n x1 x2 x3 x4 (x5 + (1 : Int32)) m) else (if x5 < 0 ∨ 138 ≤ x5.toNatClampNeg then none else (if x5 < 0 ∨ 138 ≤ x5.toNatClampNeg then none else (if x5 < 0 ∨ 138 ≤ x5.toNatClampNeg then none else (fX12_together_41 N n x1 x2 (x3 + ((m.1 126 x5.toNatClampNeg) * (m.1 127 x5.toNatClampNeg))) (x4 + (m.1 126 x5.toNatClampNeg)) (x5 + (1 : Int32)) m)))))) = some fin := hm
    refine lv_iload hx hb dX12_together_41 (lv_at hl 5 rfl) ?_
    refine lv_aload_n hx hb dX12_together_43 rfl (lv_at hl 0 rfl) ?_
    refine gR X hI fdX12_13 (la_99 hn) rf12_3 dX12_together_44 ?_
    refine lv_iconst (v := (1 : Int32)) hx hb dX12_together_47 (by decide) ?_
    refine aIc (j := 1) X hI (la_101 hn) (by decide) (by decide) dX12_together_48 ?_
    refine lv_icmp_ge (tgt := 100) hx hb dX12_together_49 (by decide) (fun c5 => ?_) (fun c5 => ?_)
    · have hm := g_t c5 hm
      refine lv_iload_n hx hb dX12_together_100 rfl (lv_at hl 3 rfl) ?_
      refine lv_i2l hx hb dX12_together_101 rfl ?_
      refine lv_iload hx hb dX12_together_102 (lv_at hl 4 rfl) ?_
      refine lv_i2l hx hb dX12_together_104 rfl ?_
      obtain ⟨q6, h7, hm⟩ := g_b hm
      refine backL X hI (runS X hI (ctX12_common N x3.toInt64 x4.toInt64  hn _ _ h7 _) msX12_449 ⟨rfl, rfl⟩ ⟨Nat.le_of_ble_eq_true rfl, Nat.le_of_ble_eq_true rfl⟩ rfl hl.1 rfl (Nat.le_of_ble_eq_true rfl) dX12_together_105) (fun H locs hI => ?_)
      refine lv_l2i hx hb dX12_together_108 rfl ?_
      refine lv_istore (lv' := [(5, .int q6.toInt32), (0, .ref (ad 99)), (1, .int x1), (2, .int x2), (3, .int x3), (4, .int x4)]) hx hb dX12_together_109 hl (by decide) rfl (fun ls hl => ?_)
      refine lv_iload_n hx hb dX12_together_111 rfl (lv_at hl 3 rfl) ?_
      refine lv_if_ne (tgt := 122) hx hb dX12_together_112 (by decide) (fun c8 => ?_) (fun c8 => ?_)
      · have hm := g_f c8 hm
        refine lv_iload hx hb dX12_together_122 (lv_at hl 5 rfl) ?_
        refine lv_iload hx hb dX12_together_124 (lv_at hl 0 rfl) ?_
        obtain ⟨g9, hm⟩ := g_no hm
        refine lv_idiv hx hb dX12_together_126 g9 ?_
        exact rI X hI hr (g_p hm).1 (g_p hm).2 dX12_together_127
      · have hm := g_t c8 hm
        refine lv_iload_n hx hb dX12_together_115 rfl (lv_at hl 4 rfl) ?_
        refine lv_iload hx hb dX12_together_116 (lv_at hl 0 rfl) ?_
        obtain ⟨g10, hm⟩ := g_no hm
        refine lv_idiv hx hb dX12_together_118 g10 ?_
        refine lv_goto (tgt := 127) hx hb dX12_together_119 (by decide) ?_
        exact rI X hI hr (g_p hm).1 (g_p hm).2 dX12_together_127
    · have hm := g_f c5 hm
      refine lv_iload_n hx hb dX12_together_52 rfl (lv_at hl 1 rfl) ?_
      refine lv_iload hx hb dX12_together_53 (lv_at hl 5 rfl) ?_
      refine lv_ishr hx hb dX12_together_55 ?_
      refine lv_iconst (v := (1 : Int32)) hx hb dX12_together_56 (by decide) ?_
      refine lv_iand hx hb dX12_together_57 ?_
      refine lv_if_ne (tgt := 64) hx hb dX12_together_58 (by decide) (fun c11 => ?_) (fun c11 => ?_)
      · have hm := g_f c11 hm
        refine lv_iload_n hx hb dX12_together_64 rfl (lv_at hl 3 rfl) ?_
        refine lv_aload_n hx hb dX12_together_65 rfl (lv_at hl 0 rfl) ?_
        refine gR X hI fdX12_93 (la_99 hn) rf12_42 dX12_together_66 ?_
        refine lv_iload hx hb dX12_together_69 (lv_at hl 5 rfl) ?_
        obtain ⟨g12, hm⟩ := g_no hm
        refine aI X hI (la_126 hn) g12 dX12_together_71 ?_
        refine lv_aload_n hx hb dX12_together_72 rfl (lv_at hl 0 rfl) ?_
        refine gR X hI fdX12_96 (la_99 hn) rf12_43 dX12_together_73 ?_
        refine lv_iload hx hb dX12_together_76 (lv_at hl 5 rfl) ?_
        obtain ⟨g13, hm⟩ := g_no hm
        refine aI X hI (la_127 hn) g13 dX12_together_78 ?_
        refine lv_imul hx hb dX12_together_79 ?_
        refine lv_iadd hx hb dX12_together_80 ?_
        refine lv_istore_n (lv' := [(3, .int (x3 + ((m.1 126 x5.toNatClampNeg) * (m.1 127 x5.toNatClampNeg)))), (0, .ref (ad 99)), (1, .int x1), (2, .int x2), (4, .int x4), (5, .int x5)]) hx hb dX12_together_81 rfl hl (by decide) rfl (fun ls hl => ?_)
        refine lv_iload hx hb dX12_together_82 (lv_at hl 4 rfl) ?_
        refine lv_aload_n hx hb dX12_together_84 rfl (lv_at hl 1 rfl) ?_
        refine gR X hI fdX12_93 (la_99 hn) rf12_42 dX12_together_85 ?_
        refine lv_iload hx hb dX12_together_88 (lv_at hl 5 rfl) ?_
        obtain ⟨g14, hm⟩ := g_no hm
        refine aI X hI (la_126 hn) g14 dX12_together_90 ?_
        refine lv_iadd hx hb dX12_together_91 ?_
        refine lv_istore (lv' := [(4, .int (x4 + (m.1 126 x5.toNatClampNeg))), (3, .int (x3 + ((m.1 126 x5.toNatClampNeg) * (m.1 127 x5.toNatClampNeg)))), (0, .ref (ad 99)), (1, .int x1), (2, .int x2), (5, .int x5)]) hx hb dX12_together_92 hl (by decide) rfl (fun ls hl => ?_)
        refine lv_iinc (v := (x5 + (1 : Int32))) (lv' := [(5, .int (x5 + (1 : Int32))), (4, .int (x4 + (m.1 126 x5.toNatClampNeg))), (3, .int (x3 + ((m.1 126 x5.toNatClampNeg) * (m.1 127 x5.toNatClampNeg)))), (0, .ref (ad 99)), (1, .int x1), (2, .int x2)]) hx hb dX12_together_94 hl (k := 5) rfl rfl (by decide) rfl (fun ls hl => ?_)
        refine lv_goto (tgt := 41) hx hb dX12_together_97 (by decide) ?_
        exact ih x1 x2 (x3 + ((m.1 126 x5.toNatClampNeg) * (m.1 127 x5.toNatClampNeg))) (x4 + (m.1 126 x5.toNatClampNeg)) (x5 + (1 : Int32)) m H locs ls hI (lv_sub hl [3, 4, 5, 2, 1, 0] rfl) hm
      · have hm := g_t c11 hm
        refine lv_goto (tgt := 94) hx hb dX12_together_61 (by decide) ?_
        refine lv_iinc (v := (x5 + (1 : Int32))) (lv' := [(5, .int (x5 + (1 : Int32))), (0, .ref (ad 99)), (1, .int x1), (2, .int x2), (3, .int x3), (4, .int x4)]) hx hb dX12_together_94 hl (k := 5) rfl rfl (by decide) rfl (fun ls hl => ?_)
        refine lv_goto (tgt := 41) hx hb dX12_together_97 (by decide) ?_
        exact ih x1 x2 x3 x4 (x5 + (1 : Int32)) m H locs ls hI (lv_sub hl [1, 2, 3, 4, 5, 0] rfl) hm
def fX12_together (N : Nat) (x1 : Int32) (x2 : Int32) (m : Mem) : Option (Int32 × Mem) := if x1 < (1 : Int32) then (some ((-1 : Int32), (mI m 99 0 (0 : Int32)))) else (if ((1 : Int32) <<< (((mI m 99 0 (0 : Int32)).1 101 1) &&& 31)) ≤ x1 then (some ((-1 : Int32), (mI m 99 0 (0 : Int32)))) else (if x2 < 0 then (some ((-1 : Int32), (mI m 99 0 (0 : Int32)))) else (if x2 ≤ (1 : Int32) then (fX12_together_41 N N x1 x2 (0 : Int32) (0 : Int32) (0 : Int32) (mI m 99 0 (0 : Int32))) else (some ((-1 : Int32), (mI m 99 0 (0 : Int32)))))))
set_option maxHeartbeats 4000000 in
set_option maxRecDepth 100000 in
theorem ctX12_together {l : Launch} {D : va_G} {ca : Nat → ClassId} {ad : Nat → Nat} (N : Nat) (x1 : Int32) (x2 : Int32)  (hn : HNr ca) (m : Mem) (fin : (Int32 × Mem)) (hm : fX12_together N x1 x2 m = some fin) : CI l D ca ad yX12_together cwX12_together rmX12_together [.ref (ad 99), .int x1, .int x2] m fin.1 fin.2 := by
  refine start (by decide) (Nat.le_of_ble_eq_true rfl) ?_
  intro p e s mm args below meth c H locs ls X hI hr hl
  have X : CX p s mm args meth c cX12_together 6 RX12 D ca ad (WA ca ad s.heap.size) := X
  have hx := X.1
  have hb := X.2.1
  have hl : lv_has ls 6 [(0, .ref (ad 99)), (1, .int x1), (2, .int x2)] := hl
  have hm : (if x1 < (1 : Int32) then (some ((-1 : Int32), (mI m 99 0 (0 : Int32)))) else (if ((1 : Int32) <<< (((mI m 99 0 (0 : Int32)).1 101 1) &&& 31)) ≤ x1 then (some ((-1 : Int32), (mI m 99 0 (0 : Int32)))) else (if x2 < 0 then (some ((-1 : Int32), (mI m 99 0 (0 : Int32)))) else (if x2 ≤ (1 : Int32) then (fX12_together_41 N N x1 x2 (0 : Int32) (0 : Int32) (0 : Int32) (mI m 99 0 (0 : Int32))) else (some ((-1 : Int32), (mI m 99 0 (0 : Int32)))))))) = some fin := hm
  refine lv_aload_n hx hb dX12_together_0 rfl (lv_at hl 0 rfl) ?_
  refine lv_iconst (v := (0 : Int32)) hx hb dX12_together_1 (by decide) ?_
  refine pI X hI fpX12_154 (la_99 hn) dX12_together_2 (fun H locs hI => ?_)
  refine lv_iload_n hx hb dX12_together_5 rfl (lv_at hl 1 rfl) ?_
  refine lv_iconst (v := (1 : Int32)) hx hb dX12_together_6 (by decide) ?_
  refine lv_icmp_lt (tgt := 31) hx hb dX12_together_7 (by decide) (fun c1 => ?_) (fun c1 => ?_)
  · have hm := g_t c1 hm
    refine lv_iconst (v := (-1 : Int32)) hx hb dX12_together_31 (by decide) ?_
    exact rI X hI hr (g_p hm).1 (g_p hm).2 dX12_together_32
  · have hm := g_f c1 hm
    refine lv_iload_n hx hb dX12_together_10 rfl (lv_at hl 1 rfl) ?_
    refine lv_iconst (v := (1 : Int32)) hx hb dX12_together_11 (by decide) ?_
    refine lv_aload_n hx hb dX12_together_12 rfl (lv_at hl 0 rfl) ?_
    refine gR X hI fdX12_13 (la_99 hn) rf12_3 dX12_together_13 ?_
    refine lv_iconst (v := (1 : Int32)) hx hb dX12_together_16 (by decide) ?_
    refine aIc (j := 1) X hI (la_101 hn) (by decide) (by decide) dX12_together_17 ?_
    refine lv_ishl hx hb dX12_together_18 ?_
    refine lv_icmp_ge (tgt := 31) hx hb dX12_together_19 (by decide) (fun c2 => ?_) (fun c2 => ?_)
    · have hm := g_t c2 hm
      refine lv_iconst (v := (-1 : Int32)) hx hb dX12_together_31 (by decide) ?_
      exact rI X hI hr (g_p hm).1 (g_p hm).2 dX12_together_32
    · have hm := g_f c2 hm
      refine lv_iload_n hx hb dX12_together_22 rfl (lv_at hl 2 rfl) ?_
      refine lv_if_lt (tgt := 31) hx hb dX12_together_23 (by decide) (fun c3 => ?_) (fun c3 => ?_)
      · have hm := g_t c3 hm
        refine lv_iconst (v := (-1 : Int32)) hx hb dX12_together_31 (by decide) ?_
        exact rI X hI hr (g_p hm).1 (g_p hm).2 dX12_together_32
      · have hm := g_f c3 hm
        refine lv_iload_n hx hb dX12_together_26 rfl (lv_at hl 2 rfl) ?_
        refine lv_iconst (v := (1 : Int32)) hx hb dX12_together_27 (by decide) ?_
        refine lv_icmp_le (tgt := 33) hx hb dX12_together_28 (by decide) (fun c4 => ?_) (fun c4 => ?_)
        · have hm := g_t c4 hm
          refine lv_iconst (v := (0 : Int32)) hx hb dX12_together_33 (by decide) ?_
          refine lv_istore_n (lv' := [(3, .int (0 : Int32)), (0, .ref (ad 99)), (1, .int x1), (2, .int x2)]) hx hb dX12_together_34 rfl hl (by decide) rfl (fun ls hl => ?_)
          refine lv_iconst (v := (0 : Int32)) hx hb dX12_together_35 (by decide) ?_
          refine lv_istore (lv' := [(4, .int (0 : Int32)), (3, .int (0 : Int32)), (0, .ref (ad 99)), (1, .int x1), (2, .int x2)]) hx hb dX12_together_36 hl (by decide) rfl (fun ls hl => ?_)
          refine lv_iconst (v := (0 : Int32)) hx hb dX12_together_38 (by decide) ?_
          refine lv_istore (lv' := [(5, .int (0 : Int32)), (4, .int (0 : Int32)), (3, .int (0 : Int32)), (0, .ref (ad 99)), (1, .int x1), (2, .int x2)]) hx hb dX12_together_39 hl (by decide) rfl (fun ls hl => ?_)
          exact tX12_together_41 N hn X hr fin  N x1 x2 (0 : Int32) (0 : Int32) (0 : Int32) (mI m 99 0 (0 : Int32)) H locs ls hI (lv_sub hl [3, 4, 5, 2, 1, 0] rfl) hm
        · have hm := g_f c4 hm
          refine lv_iconst (v := (-1 : Int32)) hx hb dX12_together_31 (by decide) ?_
          exact rI X hI hr (g_p hm).1 (g_p hm).2 dX12_together_32
