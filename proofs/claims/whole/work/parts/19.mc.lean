abbrev rmX11_isRest : Room := { frames := 2, cells := 0, slots := 0, locals := 44 }
def fX11_isRest  (x1 : Int32) (x2 : Int32) (x3 : Int32) (m : Mem) : Option Int32 := if lay (m.2.2 3) = (0, 6) then ((fX6_rankOf (m.2.2 3) x1 m).bind (fun q2 => if lay (m.2.2 3) = (0, 6) then ((fX6_rankOf (m.2.2 3) x2 m).bind (fun q5 => (fX11_gain q2 (x3 / (2 : Int32)) (jrem x3 (2 : Int32)) m).bind (fun q7 => (fX11_gain q2 ((1 : Int32) - (x3 / (2 : Int32))) (jrem x3 (2 : Int32)) m).bind (fun q9 => if q7 < q9 then (some (0 : Int32)) else ((fX11_gain q5 (jrem x3 (2 : Int32)) (x3 / (2 : Int32)) m).bind (fun q12 => (fX11_gain q5 ((1 : Int32) - (jrem x3 (2 : Int32))) (x3 / (2 : Int32)) m).bind (fun q14 => if q12 < q14 then (some (0 : Int32)) else (some (1 : Int32))))))))) else none)) else none
set_option maxHeartbeats 4000000 in
set_option maxRecDepth 100000 in
theorem ctX11_isRest {l : Launch} {D : va_G} {ca : Nat → ClassId} {ad : Nat → Nat}  (x1 : Int32) (x2 : Int32) (x3 : Int32)  (hn : HNc ca) (m : Mem) (fin : Int32) (hm : fX11_isRest x1 x2 x3 m = some fin) : CI l D ca ad yX11_isRest cwX11_isRest rmX11_isRest [.ref (ad 0), .int x1, .int x2, .int x3] m fin m := by
  refine start (by decide) (Nat.le_of_ble_eq_true rfl) ?_
  intro p e s mm args below meth c H locs ls X hI hr hl
  have X : CX p s mm args meth c cX11_isRest 8 RX11 D ca ad (WA ca ad s.heap.size) := X
  have hx := X.1
  have hb := X.2.1
  have hl : lv_has ls 8 [(0, .ref (ad 0)), (1, .int x1), (2, .int x2), (3, .int x3)] := hl
  have hm : (if lay (m.2.2 3) = (0, 6) then ((fX6_rankOf (m.2.2 3) x1 m).bind (fun q2 => if lay (m.2.2 3) = (0, 6) then ((fX6_rankOf (m.2.2 3) x2 m).bind (fun q5 => (fX11_gain q2 (x3 / (2 : Int32)) (jrem x3 (2 : Int32)) m).bind (fun q7 => (fX11_gain q2 ((1 : Int32) - (x3 / (2 : Int32))) (jrem x3 (2 : Int32)) m).bind (fun q9 => if q7 < q9 then (some (0 : Int32)) else ((fX11_gain q5 (jrem x3 (2 : Int32)) (x3 / (2 : Int32)) m).bind (fun q12 => (fX11_gain q5 ((1 : Int32) - (jrem x3 (2 : Int32))) (x3 / (2 : Int32)) m).bind (fun q14 => if q12 < q14 then (some (0 : Int32)) else (some (1 : Int32))))))))) else none)) else none) = some fin := hm
  have hpm : m = m := rfl
  refine lv_iload_n hx hb dX11_isRest_0 rfl (lv_at hl 3 rfl) ?_
  refine lv_iconst (v := (2 : Int32)) hx hb dX11_isRest_1 (by decide) ?_
  refine lv_idiv hx hb dX11_isRest_2 (by decide) ?_
  refine lv_istore (lv' := [(4, .int (x3 / (2 : Int32))), (0, .ref (ad 0)), (1, .int x1), (2, .int x2), (3, .int x3)]) hx hb dX11_isRest_3 hl (by decide) rfl (fun ls hl => ?_)
  refine lv_iload_n hx hb dX11_isRest_5 rfl (lv_at hl 4 rfl) ?_
  refine lv_iconst (v := (2 : Int32)) hx hb dX11_isRest_6 (by decide) ?_
  refine kRem hx hb dX11_isRest_7 (by decide) ?_
  refine lv_istore (lv' := [(5, .int (jrem x3 (2 : Int32))), (4, .int (x3 / (2 : Int32))), (0, .ref (ad 0)), (1, .int x1), (2, .int x2), (3, .int x3)]) hx hb dX11_isRest_8 hl (by decide) rfl (fun ls hl => ?_)
  refine lv_aload_n hx hb dX11_isRest_10 rfl (lv_at hl 2 rfl) ?_
  obtain ⟨g1, hm⟩ := g_is hm
  refine gR X hI fdX11_27 (la_0 hn) rf11_3 dX11_isRest_11 ?_
  refine lv_iload_n hx hb dX11_isRest_14 rfl (lv_at hl 3 rfl) ?_
  obtain ⟨q2, h3, hm⟩ := g_b hm
  refine backI X hI (runV X hI (ctX6_rankOf (m.2.2 3) x1 (lyO hn g1) hn _ _ h3 _) mdX11_160 (lyO hn g1) rfl ⟨rfl, rfl⟩ ⟨Nat.le_of_ble_eq_true rfl, Nat.le_of_ble_eq_true rfl⟩ rfl hl.1 rfl (Nat.le_of_ble_eq_true rfl) dX11_isRest_15) (fun H locs hI => ?_)
  refine lv_istore (lv' := [(6, .int q2), (5, .int (jrem x3 (2 : Int32))), (4, .int (x3 / (2 : Int32))), (0, .ref (ad 0)), (1, .int x1), (2, .int x2), (3, .int x3)]) hx hb dX11_isRest_18 hl (by decide) rfl (fun ls hl => ?_)
  refine lv_aload_n hx hb dX11_isRest_20 rfl (lv_at hl 3 rfl) ?_
  obtain ⟨g4, hm⟩ := g_is hm
  refine gR X hI fdX11_27 (la_0 hn) rf11_3 dX11_isRest_21 ?_
  refine lv_iload_n hx hb dX11_isRest_24 rfl (lv_at hl 5 rfl) ?_
  obtain ⟨q5, h6, hm⟩ := g_b hm
  refine backI X hI (runV X hI (ctX6_rankOf (m.2.2 3) x2 (lyO hn g4) hn _ _ h6 _) mdX11_160 (lyO hn g4) rfl ⟨rfl, rfl⟩ ⟨Nat.le_of_ble_eq_true rfl, Nat.le_of_ble_eq_true rfl⟩ rfl hl.1 rfl (Nat.le_of_ble_eq_true rfl) dX11_isRest_25) (fun H locs hI => ?_)
  refine lv_istore (lv' := [(7, .int q5), (6, .int q2), (5, .int (jrem x3 (2 : Int32))), (4, .int (x3 / (2 : Int32))), (0, .ref (ad 0)), (1, .int x1), (2, .int x2), (3, .int x3)]) hx hb dX11_isRest_28 hl (by decide) rfl (fun ls hl => ?_)
  refine lv_iload hx hb dX11_isRest_30 (lv_at hl 1 rfl) ?_
  refine lv_iload hx hb dX11_isRest_32 (lv_at hl 3 rfl) ?_
  refine lv_iload hx hb dX11_isRest_34 (lv_at hl 2 rfl) ?_
  obtain ⟨q7, h8, hm⟩ := g_b hm
  refine backI X hI (runS X hI (ctX11_gain q2 (x3 / (2 : Int32)) (jrem x3 (2 : Int32))  hn _ _ h8 _) msX11_288 ⟨rfl, rfl⟩ ⟨Nat.le_of_ble_eq_true rfl, Nat.le_of_ble_eq_true rfl⟩ rfl hl.1 rfl (Nat.le_of_ble_eq_true rfl) dX11_isRest_36) (fun H locs hI => ?_)
  refine lv_iload hx hb dX11_isRest_39 (lv_at hl 1 rfl) ?_
  refine lv_iconst (v := (1 : Int32)) hx hb dX11_isRest_41 (by decide) ?_
  refine lv_iload hx hb dX11_isRest_42 (lv_at hl 3 rfl) ?_
  refine lv_isub hx hb dX11_isRest_44 ?_
  refine lv_iload hx hb dX11_isRest_45 (lv_at hl 2 rfl) ?_
  obtain ⟨q9, h10, hm⟩ := g_b hm
  refine backI X hI (runS X hI (ctX11_gain q2 ((1 : Int32) - (x3 / (2 : Int32))) (jrem x3 (2 : Int32))  hn _ _ h10 _) msX11_288 ⟨rfl, rfl⟩ ⟨Nat.le_of_ble_eq_true rfl, Nat.le_of_ble_eq_true rfl⟩ rfl hl.1 rfl (Nat.le_of_ble_eq_true rfl) dX11_isRest_47) (fun H locs hI => ?_)
  refine lv_icmp_lt (tgt := 80) hx hb dX11_isRest_50 (by decide) (fun c11 => ?_) (fun c11 => ?_)
  · have hm := g_t c11 hm
    refine lv_iconst (v := (0 : Int32)) hx hb dX11_isRest_80 (by decide) ?_
    exact rZ X hI hr (by decide) (g_1 hm) hpm dX11_isRest_81
  · have hm := g_f c11 hm
    refine lv_iload hx hb dX11_isRest_53 (lv_at hl 0 rfl) ?_
    refine lv_iload hx hb dX11_isRest_55 (lv_at hl 2 rfl) ?_
    refine lv_iload hx hb dX11_isRest_57 (lv_at hl 3 rfl) ?_
    obtain ⟨q12, h13, hm⟩ := g_b hm
    refine backI X hI (runS X hI (ctX11_gain q5 (jrem x3 (2 : Int32)) (x3 / (2 : Int32))  hn _ _ h13 _) msX11_288 ⟨rfl, rfl⟩ ⟨Nat.le_of_ble_eq_true rfl, Nat.le_of_ble_eq_true rfl⟩ rfl hl.1 rfl (Nat.le_of_ble_eq_true rfl) dX11_isRest_59) (fun H locs hI => ?_)
    refine lv_iload hx hb dX11_isRest_62 (lv_at hl 0 rfl) ?_
    refine lv_iconst (v := (1 : Int32)) hx hb dX11_isRest_64 (by decide) ?_
    refine lv_iload hx hb dX11_isRest_65 (lv_at hl 2 rfl) ?_
    refine lv_isub hx hb dX11_isRest_67 ?_
    refine lv_iload hx hb dX11_isRest_68 (lv_at hl 3 rfl) ?_
    obtain ⟨q14, h15, hm⟩ := g_b hm
    refine backI X hI (runS X hI (ctX11_gain q5 ((1 : Int32) - (jrem x3 (2 : Int32))) (x3 / (2 : Int32))  hn _ _ h15 _) msX11_288 ⟨rfl, rfl⟩ ⟨Nat.le_of_ble_eq_true rfl, Nat.le_of_ble_eq_true rfl⟩ rfl hl.1 rfl (Nat.le_of_ble_eq_true rfl) dX11_isRest_70) (fun H locs hI => ?_)
    refine lv_icmp_lt (tgt := 80) hx hb dX11_isRest_73 (by decide) (fun c16 => ?_) (fun c16 => ?_)
    · have hm := g_t c16 hm
      refine lv_iconst (v := (0 : Int32)) hx hb dX11_isRest_80 (by decide) ?_
      exact rZ X hI hr (by decide) (g_1 hm) hpm dX11_isRest_81
    · have hm := g_f c16 hm
      refine lv_iconst (v := (1 : Int32)) hx hb dX11_isRest_76 (by decide) ?_
      refine lv_goto (tgt := 81) hx hb dX11_isRest_77 (by decide) ?_
      exact rZ X hI hr (by decide) (g_1 hm) hpm dX11_isRest_81
abbrev rmX11_restsUpTo : Room := { frames := 3, cells := 0, slots := 0, locals := 71 }
def fX11_restsUpTo_6 (N : Nat) : Nat → Int32 → Int32 → Int32 → Int32 → Int32 → Mem → Option Int32
  | 0, _, _, _, _, _, _ => none
  | n + 1, x1, x2, x3, x4, x5, m => if x3 ≤ x5 then (some x4) else ((fX11_isRest x1 x2 x5 m).bind (fun q2 => if q2 = 0 then (fX11_restsUpTo_6 N n x1 x2 x3 x4 (x5 + (1 : Int32)) m) else (fX11_restsUpTo_6 N n x1 x2 x3 (x4 + (1 : Int32)) (x5 + (1 : Int32)) m)))
set_option maxHeartbeats 4000000 in
set_option maxRecDepth 100000 in
theorem tX11_restsUpTo_6 (N : Nat) {l : Launch} {D : va_G} {ca : Nat → ClassId} {ad : Nat → Nat} {p : Program} {e : Env} {s : State} {mm : MethodId} {args : Array Value} {below : List Frame} {meth : Method} {c : Code}  (hn : HNc ca) (X : CX p s mm args meth c cX11_restsUpTo 6 RX11 D ca ad (WA ca ad s.heap.size)) (hr : meth.sig.returnType = (some .int)) (fin : Int32) (m0 : Mem)  : ∀ (n : Nat) (x1 : Int32) (x2 : Int32) (x3 : Int32) (x4 : Int32) (x5 : Int32) (m : Mem) (H : Heap) (locs : List Loc) (ls : Array Slot), IW D ca ad (WA ca ad s.heap.size) s m H locs → lv_has ls 6 [(0, .ref (ad 0)), (1, .int x1), (2, .int x2), (3, .int x3), (4, .int x4), (5, .int x5)] → fX11_restsUpTo_6 N n x1 x2 x3 x4 x5 m = some fin → m = m0 → W p l e rmX11_restsUpTo s mm args below meth c H locs 0 0 (MQ below (QI D ca ad s.heap.size fin m0) args s 0 0 (WA ca ad s.heap.size)) (F0 mm 6 ls []) := by
  have hx := X.1
  have hb := X.2.1
  intro n
  induction n with
  | zero => intro x1 x2 x3 x4 x5 m H locs ls hI hl hm hpm
            exact absurd hm (by intro q; cases q)
  | succ n ih =>
    intro x1 x2 x3 x4 x5 m H locs ls hI hl hm hpm
    have hm : (if x3 ≤ x5 then (some x4) else ((fX11_isRest x1 x2 x5 m).bind (fun q2 => if q2 = 0 then (fX11_restsUpTo_6 N n x1 x2 x3 x4 (x5 + (1 : Int32)) m) else (fX11_restsUpTo_6 N n x1 x2 x3 (x4 + (1 : Int32)) (x5 + (1 : Int32)) m)))) = some fin := hm
    refine lv_iload hx hb dX11_restsUpTo_6 (lv_at hl 5 rfl) ?_
    refine lv_iload_n hx hb dX11_restsUpTo_8 rfl (lv_at hl 3 rfl) ?_
    refine lv_icmp_ge (tgt := 32) hx hb dX11_restsUpTo_9 (by decide) (fun c1 => ?_) (fun c1 => ?_)
    · have hm := g_t c1 hm
      refine lv_iload hx hb dX11_restsUpTo_32 (lv_at hl 4 rfl) ?_
      exact rI X hI hr (g_1 hm) hpm dX11_restsUpTo_34
    · have hm := g_f c1 hm
      refine lv_aload_n hx hb dX11_restsUpTo_12 rfl (lv_at hl 0 rfl) ?_
      refine lv_iload_n hx hb dX11_restsUpTo_13 rfl (lv_at hl 1 rfl) ?_
      refine lv_iload_n hx hb dX11_restsUpTo_14 rfl (lv_at hl 2 rfl) ?_
      refine lv_iload hx hb dX11_restsUpTo_15 (lv_at hl 5 rfl) ?_
      obtain ⟨q2, h3, hm⟩ := g_b hm
      refine backI X hI (runV X hI (ctX11_isRest x1 x2 x5  hn _ _ h3 _) mdX11_284 (la_0 hn) rfl ⟨rfl, rfl⟩ ⟨Nat.le_of_ble_eq_true rfl, Nat.le_of_ble_eq_true rfl⟩ rfl hl.1 rfl (Nat.le_of_ble_eq_true rfl) dX11_restsUpTo_17) (fun H locs hI => ?_)
      refine lv_if_eq (tgt := 26) hx hb dX11_restsUpTo_20 (by decide) (fun c4 => ?_) (fun c4 => ?_)
      · have hm := g_t c4 hm
        refine lv_iinc (v := (x5 + (1 : Int32))) (lv' := [(5, .int (x5 + (1 : Int32))), (0, .ref (ad 0)), (1, .int x1), (2, .int x2), (3, .int x3), (4, .int x4)]) hx hb dX11_restsUpTo_26 hl (k := 5) rfl rfl (by decide) rfl (fun ls hl => ?_)
        refine lv_goto (tgt := 6) hx hb dX11_restsUpTo_29 (by decide) ?_
        exact ih x1 x2 x3 x4 (x5 + (1 : Int32)) m H locs ls hI (lv_sub hl [1, 2, 3, 4, 5, 0] rfl) hm hpm
      · have hm := g_f c4 hm
        refine lv_iinc (v := (x4 + (1 : Int32))) (lv' := [(4, .int (x4 + (1 : Int32))), (0, .ref (ad 0)), (1, .int x1), (2, .int x2), (3, .int x3), (5, .int x5)]) hx hb dX11_restsUpTo_23 hl (k := 4) rfl rfl (by decide) rfl (fun ls hl => ?_)
        refine lv_iinc (v := (x5 + (1 : Int32))) (lv' := [(5, .int (x5 + (1 : Int32))), (4, .int (x4 + (1 : Int32))), (0, .ref (ad 0)), (1, .int x1), (2, .int x2), (3, .int x3)]) hx hb dX11_restsUpTo_26 hl (k := 5) rfl rfl (by decide) rfl (fun ls hl => ?_)
        refine lv_goto (tgt := 6) hx hb dX11_restsUpTo_29 (by decide) ?_
        exact ih x1 x2 x3 (x4 + (1 : Int32)) (x5 + (1 : Int32)) m H locs ls hI (lv_sub hl [2, 3, 4, 5, 1, 0] rfl) hm hpm
def fX11_restsUpTo (N : Nat) (x1 : Int32) (x2 : Int32) (x3 : Int32) (m : Mem) : Option Int32 := fX11_restsUpTo_6 N N x1 x2 x3 (0 : Int32) (0 : Int32) m
set_option maxHeartbeats 4000000 in
set_option maxRecDepth 100000 in
theorem ctX11_restsUpTo {l : Launch} {D : va_G} {ca : Nat → ClassId} {ad : Nat → Nat} (N : Nat) (x1 : Int32) (x2 : Int32) (x3 : Int32)  (hn : HNc ca) (m : Mem) (fin : Int32) (hm : fX11_restsUpTo N x1 x2 x3 m = some fin) : CI l D ca ad yX11_restsUpTo cwX11_restsUpTo rmX11_restsUpTo [.ref (ad 0), .int x1, .int x2, .int x3] m fin m := by
  refine start (by decide) (Nat.le_of_ble_eq_true rfl) ?_
  intro p e s mm args below meth c H locs ls X hI hr hl
  have X : CX p s mm args meth c cX11_restsUpTo 6 RX11 D ca ad (WA ca ad s.heap.size) := X
  have hx := X.1
  have hb := X.2.1
  have hl : lv_has ls 6 [(0, .ref (ad 0)), (1, .int x1), (2, .int x2), (3, .int x3)] := hl
  have hm : (fX11_restsUpTo_6 N N x1 x2 x3 (0 : Int32) (0 : Int32) m) = some fin := hm
  have hpm : m = m := rfl
  refine lv_iconst (v := (0 : Int32)) hx hb dX11_restsUpTo_0 (by decide) ?_
  refine lv_istore (lv' := [(4, .int (0 : Int32)), (0, .ref (ad 0)), (1, .int x1), (2, .int x2), (3, .int x3)]) hx hb dX11_restsUpTo_1 hl (by decide) rfl (fun ls hl => ?_)
  refine lv_iconst (v := (0 : Int32)) hx hb dX11_restsUpTo_3 (by decide) ?_
  refine lv_istore (lv' := [(5, .int (0 : Int32)), (4, .int (0 : Int32)), (0, .ref (ad 0)), (1, .int x1), (2, .int x2), (3, .int x3)]) hx hb dX11_restsUpTo_4 hl (by decide) rfl (fun ls hl => ?_)
  exact tX11_restsUpTo_6 N hn X hr fin m  N x1 x2 x3 (0 : Int32) (0 : Int32) m H locs ls hI (lv_sub hl [2, 3, 4, 5, 1, 0] rfl) hm hpm
abbrev rmX11_rests : Room := { frames := 4, cells := 0, slots := 0, locals := 96 }
abbrev cwX11_rests : Cond := .code yX11_rests cX11_rests 3 (some .int)
theorem cmX11_rests : cwX11_rests ∈ BIG := (tb5 (List.mem_of_getElem? (i := 39) rfl) rfl)
def fX11_rests (N : Nat) (x1 : Int32) (x2 : Int32) (m : Mem) : Option Int32 := (fX11_areTwo x1 x2 m).bind (fun q1 => if q1 = 0 then (some (-1 : Int32)) else ((fX11_restsUpTo N x1 x2 (4 : Int32) m).bind (fun q4 => some q4)))
set_option maxHeartbeats 4000000 in
set_option maxRecDepth 100000 in
theorem ctX11_rests {l : Launch} {D : va_G} {ca : Nat → ClassId} {ad : Nat → Nat} (N : Nat) (x1 : Int32) (x2 : Int32)  (hn : HNc ca) (m : Mem) (fin : Int32) (hm : fX11_rests N x1 x2 m = some fin) : CI l D ca ad yX11_rests cwX11_rests rmX11_rests [.ref (ad 0), .int x1, .int x2] m fin m := by
  refine start (by decide) (Nat.le_of_ble_eq_true rfl) ?_
  intro p e s mm args below meth c H locs ls X hI hr hl
  have X : CX p s mm args meth c cX11_rests 3 RX11 D ca ad (WA ca ad s.heap.size) := X
  have hx := X.1
  have hb := X.2.1
  have hl : lv_has ls 3 [(0, .ref (ad 0)), (1, .int x1), (2, .int x2)] := hl
  have hm : ((fX11_areTwo x1 x2 m).bind (fun q1 => if q1 = 0 then (some (-1 : Int32)) else ((fX11_restsUpTo N x1 x2 (4 : Int32) m).bind (fun q4 => some q4)))) = some fin := hm
  have hpm : m = m := rfl
  refine lv_aload_n hx hb dX11_rests_0 rfl (lv_at hl 0 rfl) ?_
  refine lv_iload_n hx hb dX11_rests_1 rfl (lv_at hl 1 rfl) ?_
  refine lv_iload_n hx hb dX11_rests_2 rfl (lv_at hl 2 rfl) ?_
  obtain ⟨q1, h2, hm⟩ := g_b hm
  refine backI X hI (runV X hI (ctX11_areTwo x1 x2  hn _ _ h2 _) mdX11_278 (la_0 hn) rfl ⟨rfl, rfl⟩ ⟨Nat.le_of_ble_eq_true rfl, Nat.le_of_ble_eq_true rfl⟩ rfl hl.1 rfl (Nat.le_of_ble_eq_true rfl) dX11_rests_3) (fun H locs hI => ?_)
  refine lv_if_eq (tgt := 19) hx hb dX11_rests_6 (by decide) (fun c3 => ?_) (fun c3 => ?_)
  · have hm := g_t c3 hm
    refine lv_iconst (v := (-1 : Int32)) hx hb dX11_rests_19 (by decide) ?_
    exact rI X hI hr (g_1 hm) hpm dX11_rests_20
  · have hm := g_f c3 hm
    refine lv_aload_n hx hb dX11_rests_9 rfl (lv_at hl 0 rfl) ?_
    refine lv_iload_n hx hb dX11_rests_10 rfl (lv_at hl 1 rfl) ?_
    refine lv_iload_n hx hb dX11_rests_11 rfl (lv_at hl 2 rfl) ?_
    refine lv_iconst (v := (4 : Int32)) hx hb dX11_rests_12 (by decide) ?_
    obtain ⟨q4, h5, hm⟩ := g_b hm
    refine backI X hI (runV X hI (ctX11_restsUpTo N x1 x2 (4 : Int32)  hn _ _ h5 _) mdX11_281 (la_0 hn) rfl ⟨rfl, rfl⟩ ⟨Nat.le_of_ble_eq_true rfl, Nat.le_of_ble_eq_true rfl⟩ rfl hl.1 rfl (Nat.le_of_ble_eq_true rfl) dX11_rests_13) (fun H locs hI => ?_)
    refine lv_goto (tgt := 20) hx hb dX11_rests_16 (by decide) ?_
    exact rI X hI hr (g_1 hm) hpm dX11_rests_20
abbrev rmX11_rest : Room := { frames := 4, cells := 0, slots := 0, locals := 96 }
abbrev cwX11_rest : Cond := .code yX11_rest cX11_rest 5 (some .int)
theorem cmX11_rest : cwX11_rest ∈ BIG := (tb5 (List.mem_of_getElem? (i := 58) rfl) rfl)
def fX11_rest_18 (N : Nat) : Nat → Int32 → Int32 → Int32 → Int32 → Mem → Option Int32
  | 0, _, _, _, _, _ => none
  | n + 1, x1, x2, x3, x4, m => if (4 : Int32) ≤ x4 then (some (-2 : Int32)) else ((fX11_isRest x1 x2 x4 m).bind (fun q6 => if q6 = 0 then (fX11_rest_18 N n x1 x2 x3 (x4 + (1 : Int32)) m) else ((fX11_restsUpTo N x1 x2 x4 m).bind (fun q9 => if q9 = x3 then (some (((10 : Int32) * (x4 / (2 : Int32))) + (jrem x4 (2 : Int32)))) else (fX11_rest_18 N n x1 x2 x3 (x4 + (1 : Int32)) m)))))
set_option maxHeartbeats 4000000 in
set_option maxRecDepth 100000 in
theorem tX11_rest_18 (N : Nat) {l : Launch} {D : va_G} {ca : Nat → ClassId} {ad : Nat → Nat} {p : Program} {e : Env} {s : State} {mm : MethodId} {args : Array Value} {below : List Frame} {meth : Method} {c : Code}  (hn : HNc ca) (X : CX p s mm args meth c cX11_rest 5 RX11 D ca ad (WA ca ad s.heap.size)) (hr : meth.sig.returnType = (some .int)) (fin : Int32) (m0 : Mem)  : ∀ (n : Nat) (x1 : Int32) (x2 : Int32) (x3 : Int32) (x4 : Int32) (m : Mem) (H : Heap) (locs : List Loc) (ls : Array Slot), IW D ca ad (WA ca ad s.heap.size) s m H locs → lv_has ls 5 [(0, .ref (ad 0)), (1, .int x1), (2, .int x2), (3, .int x3), (4, .int x4)] → fX11_rest_18 N n x1 x2 x3 x4 m = some fin → m = m0 → W p l e rmX11_rest s mm args below meth c H locs 0 0 (MQ below (QI D ca ad s.heap.size fin m0) args s 0 0 (WA ca ad s.heap.size)) (F0 mm 18 ls []) := by
  have hx := X.1
  have hb := X.2.1
  intro n
  induction n with
  | zero => intro x1 x2 x3 x4 m H locs ls hI hl hm hpm
            exact absurd hm (by intro q; cases q)
  | succ n ih =>
    intro x1 x2 x3 x4 m H locs ls hI hl hm hpm
    have hm : (if (4 : Int32) ≤ x4 then (some (-2 : Int32)) else ((fX11_isRest x1 x2 x4 m).bind (fun q6 => if q6 = 0 then (fX11_rest_18 N n x1 x2 x3 (x4 + (1 : Int32)) m) else ((fX11_restsUpTo N x1 x2 x4 m).bind (fun q9 => if q9 = x3 then (some (((10 : Int32) * (x4 / (2 : Int32))) + (jrem x4 (2 : Int32)))) else (fX11_rest_18 N n x1 x2 x3 (x4 + (1 : Int32)) m)))))) = some fin := hm
    refine lv_iload hx hb dX11_rest_18 (lv_at hl 4 rfl) ?_
    refine lv_iconst (v := (4 : Int32)) hx hb dX11_rest_20 (by decide) ?_
    refine lv_icmp_ge (tgt := 66) hx hb dX11_rest_21 (by decide) (fun c5 => ?_) (fun c5 => ?_)
    · have hm := g_t c5 hm
      refine lv_bipush (v := (-2 : Int32)) hx hb dX11_rest_66 (by decide) ?_
      exact rI X hI hr (g_1 hm) hpm dX11_rest_68
    · have hm := g_f c5 hm
      refine lv_aload_n hx hb dX11_rest_24 rfl (lv_at hl 0 rfl) ?_
      refine lv_iload_n hx hb dX11_rest_25 rfl (lv_at hl 1 rfl) ?_
      refine lv_iload_n hx hb dX11_rest_26 rfl (lv_at hl 2 rfl) ?_
      refine lv_iload hx hb dX11_rest_27 (lv_at hl 4 rfl) ?_
      obtain ⟨q6, h7, hm⟩ := g_b hm
      refine backI X hI (runV X hI (ctX11_isRest x1 x2 x4  hn _ _ h7 _) mdX11_284 (la_0 hn) rfl ⟨rfl, rfl⟩ ⟨Nat.le_of_ble_eq_true rfl, Nat.le_of_ble_eq_true rfl⟩ rfl hl.1 rfl (Nat.le_of_ble_eq_true rfl) dX11_rest_29) (fun H locs hI => ?_)
      refine lv_if_eq (tgt := 60) hx hb dX11_rest_32 (by decide) (fun c8 => ?_) (fun c8 => ?_)
      · have hm := g_t c8 hm
        refine lv_iinc (v := (x4 + (1 : Int32))) (lv' := [(4, .int (x4 + (1 : Int32))), (0, .ref (ad 0)), (1, .int x1), (2, .int x2), (3, .int x3)]) hx hb dX11_rest_60 hl (k := 4) rfl rfl (by decide) rfl (fun ls hl => ?_)
        refine lv_goto (tgt := 18) hx hb dX11_rest_63 (by decide) ?_
        exact ih x1 x2 x3 (x4 + (1 : Int32)) m H locs ls hI (lv_sub hl [1, 2, 3, 4, 0] rfl) hm hpm
      · have hm := g_f c8 hm
        refine lv_aload_n hx hb dX11_rest_35 rfl (lv_at hl 0 rfl) ?_
        refine lv_iload_n hx hb dX11_rest_36 rfl (lv_at hl 1 rfl) ?_
        refine lv_iload_n hx hb dX11_rest_37 rfl (lv_at hl 2 rfl) ?_
        refine lv_iload hx hb dX11_rest_38 (lv_at hl 4 rfl) ?_
        obtain ⟨q9, h10, hm⟩ := g_b hm
        refine backI X hI (runV X hI (ctX11_restsUpTo N x1 x2 x4  hn _ _ h10 _) mdX11_281 (la_0 hn) rfl ⟨rfl, rfl⟩ ⟨Nat.le_of_ble_eq_true rfl, Nat.le_of_ble_eq_true rfl⟩ rfl hl.1 rfl (Nat.le_of_ble_eq_true rfl) dX11_rest_40) (fun H locs hI => ?_)
        refine lv_iload_n hx hb dX11_rest_43 rfl (lv_at hl 3 rfl) ?_
        refine lv_icmp_ne (tgt := 60) hx hb dX11_rest_44 (by decide) (fun c11 => ?_) (fun c11 => ?_)
        · have hm := g_f c11 hm
          refine lv_iinc (v := (x4 + (1 : Int32))) (lv' := [(4, .int (x4 + (1 : Int32))), (0, .ref (ad 0)), (1, .int x1), (2, .int x2), (3, .int x3)]) hx hb dX11_rest_60 hl (k := 4) rfl rfl (by decide) rfl (fun ls hl => ?_)
          refine lv_goto (tgt := 18) hx hb dX11_rest_63 (by decide) ?_
          exact ih x1 x2 x3 (x4 + (1 : Int32)) m H locs ls hI (lv_sub hl [1, 2, 3, 4, 0] rfl) hm hpm
        · have hm := g_t c11 hm
          refine lv_bipush (v := (10 : Int32)) hx hb dX11_rest_47 (by decide) ?_
          refine lv_iload hx hb dX11_rest_49 (lv_at hl 4 rfl) ?_
          refine lv_iconst (v := (2 : Int32)) hx hb dX11_rest_51 (by decide) ?_
          refine lv_idiv hx hb dX11_rest_52 (by decide) ?_
          refine lv_imul hx hb dX11_rest_53 ?_
          refine lv_iload hx hb dX11_rest_54 (lv_at hl 4 rfl) ?_
          refine lv_iconst (v := (2 : Int32)) hx hb dX11_rest_56 (by decide) ?_
          refine kRem hx hb dX11_rest_57 (by decide) ?_
          refine lv_iadd hx hb dX11_rest_58 ?_
          exact rI X hI hr (g_1 hm) hpm dX11_rest_59
def fX11_rest (N : Nat) (x1 : Int32) (x2 : Int32) (x3 : Int32) (m : Mem) : Option Int32 := (fX11_areTwo x1 x2 m).bind (fun q1 => if q1 = 0 then (some (-1 : Int32)) else (if 0 ≤ x3 then (fX11_rest_18 N N x1 x2 x3 (0 : Int32) m) else (some (-1 : Int32))))
set_option maxHeartbeats 4000000 in
set_option maxRecDepth 100000 in
theorem ctX11_rest {l : Launch} {D : va_G} {ca : Nat → ClassId} {ad : Nat → Nat} (N : Nat) (x1 : Int32) (x2 : Int32) (x3 : Int32)  (hn : HNc ca) (m : Mem) (fin : Int32) (hm : fX11_rest N x1 x2 x3 m = some fin) : CI l D ca ad yX11_rest cwX11_rest rmX11_rest [.ref (ad 0), .int x1, .int x2, .int x3] m fin m := by
  refine start (by decide) (Nat.le_of_ble_eq_true rfl) ?_
  intro p e s mm args below meth c H locs ls X hI hr hl
  have X : CX p s mm args meth c cX11_rest 5 RX11 D ca ad (WA ca ad s.heap.size) := X
  have hx := X.1
  have hb := X.2.1
  have hl : lv_has ls 5 [(0, .ref (ad 0)), (1, .int x1), (2, .int x2), (3, .int x3)] := hl
  have hm : ((fX11_areTwo x1 x2 m).bind (fun q1 => if q1 = 0 then (some (-1 : Int32)) else (if 0 ≤ x3 then (fX11_rest_18 N N x1 x2 x3 (0 : Int32) m) else (some (-1 : Int32))))) = some fin := hm
  have hpm : m = m := rfl
  refine lv_aload_n hx hb dX11_rest_0 rfl (lv_at hl 0 rfl) ?_
  refine lv_iload_n hx hb dX11_rest_1 rfl (lv_at hl 1 rfl) ?_
  refine lv_iload_n hx hb dX11_rest_2 rfl (lv_at hl 2 rfl) ?_
  obtain ⟨q1, h2, hm⟩ := g_b hm
  refine backI X hI (runV X hI (ctX11_areTwo x1 x2  hn _ _ h2 _) mdX11_278 (la_0 hn) rfl ⟨rfl, rfl⟩ ⟨Nat.le_of_ble_eq_true rfl, Nat.le_of_ble_eq_true rfl⟩ rfl hl.1 rfl (Nat.le_of_ble_eq_true rfl) dX11_rest_3) (fun H locs hI => ?_)
  refine lv_if_eq (tgt := 13) hx hb dX11_rest_6 (by decide) (fun c3 => ?_) (fun c3 => ?_)
  · have hm := g_t c3 hm
    refine lv_iconst (v := (-1 : Int32)) hx hb dX11_rest_13 (by decide) ?_
    exact rI X hI hr (g_1 hm) hpm dX11_rest_14
  · have hm := g_f c3 hm
    refine lv_iload_n hx hb dX11_rest_9 rfl (lv_at hl 3 rfl) ?_
    refine lv_if_ge (tgt := 15) hx hb dX11_rest_10 (by decide) (fun c4 => ?_) (fun c4 => ?_)
    · have hm := g_t c4 hm
      refine lv_iconst (v := (0 : Int32)) hx hb dX11_rest_15 (by decide) ?_
      refine lv_istore (lv' := [(4, .int (0 : Int32)), (0, .ref (ad 0)), (1, .int x1), (2, .int x2), (3, .int x3)]) hx hb dX11_rest_16 hl (by decide) rfl (fun ls hl => ?_)
      exact tX11_rest_18 N hn X hr fin m  N x1 x2 x3 (0 : Int32) m H locs ls hI (lv_sub hl [1, 2, 3, 4, 0] rfl) hm hpm
    · have hm := g_f c4 hm
      refine lv_iconst (v := (-1 : Int32)) hx hb dX11_rest_13 (by decide) ?_
      exact rI X hI hr (g_1 hm) hpm dX11_rest_14
abbrev rmX11_steady : Room := { frames := 1, cells := 0, slots := 0, locals := 31 }
abbrev cwX11_steady : Cond := .code yX11_steady cX11_steady 8 (some .long)
theorem cmX11_steady : cwX11_steady ∈ BIG := (tb5 (List.mem_of_getElem? (i := 62) rfl) rfl)
def fX11_steady_31 (N : Nat) : Nat → Int32 → Int32 → Int64 → Int64 → Int32 → Mem → Option Int64
  | 0, _, _, _, _, _, _ => none
  | n + 1, x1, x2, x3, x5, x7, m => if x1 ≤ x7 then ((fX11_leastTerm N x3 x5 x2 m).bind (fun q6 => some q6)) else (if lay (m.2.2 3) = (0, 6) then (fX11_steady_31 N n x1 x2 (x3 * ((100 : Int32) - (m.1 (m.2.2 3) 6)).toInt64) (x5 * (100 : Int64)) (x7 + (1 : Int32)) m) else none)
set_option maxHeartbeats 4000000 in
set_option maxRecDepth 100000 in
theorem tX11_steady_31 (N : Nat) {l : Launch} {D : va_G} {ca : Nat → ClassId} {ad : Nat → Nat} {p : Program} {e : Env} {s : State} {mm : MethodId} {args : Array Value} {below : List Frame} {meth : Method} {c : Code}  (hn : HNc ca) (X : CX p s mm args meth c cX11_steady 8 RX11 D ca ad (WA ca ad s.heap.size)) (hr : meth.sig.returnType = (some .long)) (fin : Int64) (m0 : Mem)  : ∀ (n : Nat) (x1 : Int32) (x2 : Int32) (x3 : Int64) (x5 : Int64) (x7 : Int32) (m : Mem) (H : Heap) (locs : List Loc) (ls : Array Slot), IW D ca ad (WA ca ad s.heap.size) s m H locs → lv_has ls 8 [(0, .ref (ad 0)), (1, .int x1), (2, .int x2), (3, .long x3), (5, .long x5), (7, .int x7)] → fX11_steady_31 N n x1 x2 x3 x5 x7 m = some fin → m = m0 → W p l e rmX11_steady s mm args below meth c H locs 0 0 (MQ below (QL D ca ad s.heap.size fin m0) args s 0 0 (WA ca ad s.heap.size)) (F0 mm 31 ls []) := by
  have hx := X.1
  have hb := X.2.1
  intro n
  induction n with
  | zero => intro x1 x2 x3 x5 x7 m H locs ls hI hl hm hpm
            exact absurd hm (by intro q; cases q)
  | succ n ih =>
    intro x1 x2 x3 x5 x7 m H locs ls hI hl hm hpm
    have hm : (if x1 ≤ x7 then ((fX11_leastTerm N x3 x5 x2 m).bind (fun q6 => some q6)) else (if lay (m.2.2 3) = (0, 6) then (fX11_steady_31 N n x1 x2 (x3 * ((100 : Int32) - (m.1 (m.2.2 3) 6)).toInt64) (x5 * (100 : Int64)) (x7 + (1 : Int32)) m) else none)) = some fin := hm
    refine lv_iload hx hb dX11_steady_31 (lv_at hl 5 rfl) ?_
    refine lv_iload_n hx hb dX11_steady_33 rfl (lv_at hl 1 rfl) ?_
    refine lv_icmp_ge (tgt := 65) hx hb dX11_steady_34 (by decide) (fun c5 => ?_) (fun c5 => ?_)
    · have hm := g_t c5 hm
      refine lv_lload_n hx hb dX11_steady_65 rfl (lv_at hl 3 rfl) ?_
      refine lv_lload hx hb dX11_steady_66 (lv_at hl 4 rfl) ?_
      refine lv_iload_n hx hb dX11_steady_68 rfl (lv_at hl 2 rfl) ?_
      obtain ⟨q6, h7, hm⟩ := g_b hm
      refine backL X hI (runS X hI (ctX11_leastTerm N x3 x5 x2  hn _ _ h7 _) msX11_253 ⟨rfl, rfl⟩ ⟨Nat.le_of_ble_eq_true rfl, Nat.le_of_ble_eq_true rfl⟩ rfl hl.1 rfl (Nat.le_of_ble_eq_true rfl) dX11_steady_69) (fun H locs hI => ?_)
      exact rL X hI hr (g_1 hm) hpm dX11_steady_72
    · have hm := g_f c5 hm
      refine lv_lload_n hx hb dX11_steady_37 rfl (lv_at hl 3 rfl) ?_
      refine lv_bipush (v := (100 : Int32)) hx hb dX11_steady_38 (by decide) ?_
      refine lv_aload_n hx hb dX11_steady_40 rfl (lv_at hl 0 rfl) ?_
      obtain ⟨g8, hm⟩ := g_is hm
      refine gR X hI fdX11_27 (la_0 hn) rf11_3 dX11_steady_41 ?_
      refine gI X hI fdX11_291 (lyO hn g8) dX11_steady_44 ?_
      refine lv_isub hx hb dX11_steady_47 ?_
      refine lv_i2l hx hb dX11_steady_48 rfl ?_
      refine lv_lmul hx hb dX11_steady_49 ?_
      refine lv_lstore_n (lv' := [(3, .long (x3 * ((100 : Int32) - (m.1 (m.2.2 3) 6)).toInt64)), (0, .ref (ad 0)), (1, .int x1), (2, .int x2), (5, .long x5), (7, .int x7)]) hx hb dX11_steady_50 rfl hl (by decide) rfl (fun ls hl => ?_)
      refine lv_lload hx hb dX11_steady_51 (lv_at hl 4 rfl) ?_
      refine lv_ldc2 hx hb X.2.2.2.1 (X.2.2.2.2.1 _ kcX11_294) dX11_steady_53 ?_
      refine lv_lmul hx hb dX11_steady_56 ?_
      refine lv_lstore (lv' := [(5, .long (x5 * (100 : Int64))), (3, .long (x3 * ((100 : Int32) - (m.1 (m.2.2 3) 6)).toInt64)), (0, .ref (ad 0)), (1, .int x1), (2, .int x2), (7, .int x7)]) hx hb dX11_steady_57 hl (by decide) rfl (fun ls hl => ?_)
      refine lv_iinc (v := (x7 + (1 : Int32))) (lv' := [(7, .int (x7 + (1 : Int32))), (5, .long (x5 * (100 : Int64))), (3, .long (x3 * ((100 : Int32) - (m.1 (m.2.2 3) 6)).toInt64)), (0, .ref (ad 0)), (1, .int x1), (2, .int x2)]) hx hb dX11_steady_59 hl (k := 5) rfl rfl (by decide) rfl (fun ls hl => ?_)
      refine lv_goto (tgt := 31) hx hb dX11_steady_62 (by decide) ?_
      exact ih x1 x2 (x3 * ((100 : Int32) - (m.1 (m.2.2 3) 6)).toInt64) (x5 * (100 : Int64)) (x7 + (1 : Int32)) m H locs ls hI (lv_sub hl [3, 4, 5, 2, 1, 0] rfl) hm hpm
def fX11_steady (N : Nat) (x1 : Int32) (x2 : Int32) (m : Mem) : Option Int64 := if x1 < 0 then (some (-1 : Int64)) else (if (6 : Int32) < x1 then (some (-1 : Int64)) else (if x2 < 0 then (some (-1 : Int64)) else (if x2 ≤ (1 : Int32) then (fX11_steady_31 N N x1 x2 (1 : Int64) (1 : Int64) (0 : Int32) m) else (some (-1 : Int64)))))
set_option maxHeartbeats 4000000 in
set_option maxRecDepth 100000 in
theorem ctX11_steady {l : Launch} {D : va_G} {ca : Nat → ClassId} {ad : Nat → Nat} (N : Nat) (x1 : Int32) (x2 : Int32)  (hn : HNc ca) (m : Mem) (fin : Int64) (hm : fX11_steady N x1 x2 m = some fin) : CL l D ca ad yX11_steady cwX11_steady rmX11_steady [.ref (ad 0), .int x1, .int x2] m fin m := by
  refine start (by decide) (Nat.le_of_ble_eq_true rfl) ?_
  intro p e s mm args below meth c H locs ls X hI hr hl
  have X : CX p s mm args meth c cX11_steady 8 RX11 D ca ad (WA ca ad s.heap.size) := X
  have hx := X.1
  have hb := X.2.1
  have hl : lv_has ls 8 [(0, .ref (ad 0)), (1, .int x1), (2, .int x2)] := hl
  have hm : (if x1 < 0 then (some (-1 : Int64)) else (if (6 : Int32) < x1 then (some (-1 : Int64)) else (if x2 < 0 then (some (-1 : Int64)) else (if x2 ≤ (1 : Int32) then (fX11_steady_31 N N x1 x2 (1 : Int64) (1 : Int64) (0 : Int32) m) else (some (-1 : Int64)))))) = some fin := hm
  have hpm : m = m := rfl
  refine lv_iload_n hx hb dX11_steady_0 rfl (lv_at hl 1 rfl) ?_
  refine lv_if_lt (tgt := 19) hx hb dX11_steady_1 (by decide) (fun c1 => ?_) (fun c1 => ?_)
  · have hm := g_t c1 hm
    refine lv_ldc2 hx hb X.2.2.2.1 (X.2.2.2.2.1 _ kcX11_257) dX11_steady_19 ?_
    exact rL X hI hr (g_1 hm) hpm dX11_steady_22
  · have hm := g_f c1 hm
    refine lv_iload_n hx hb dX11_steady_4 rfl (lv_at hl 1 rfl) ?_
    refine lv_bipush (v := (6 : Int32)) hx hb dX11_steady_5 (by decide) ?_
    refine lv_icmp_gt (tgt := 19) hx hb dX11_steady_7 (by decide) (fun c2 => ?_) (fun c2 => ?_)
    · have hm := g_t c2 hm
      refine lv_ldc2 hx hb X.2.2.2.1 (X.2.2.2.2.1 _ kcX11_257) dX11_steady_19 ?_
      exact rL X hI hr (g_1 hm) hpm dX11_steady_22
    · have hm := g_f c2 hm
      refine lv_iload_n hx hb dX11_steady_10 rfl (lv_at hl 2 rfl) ?_
      refine lv_if_lt (tgt := 19) hx hb dX11_steady_11 (by decide) (fun c3 => ?_) (fun c3 => ?_)
      · have hm := g_t c3 hm
        refine lv_ldc2 hx hb X.2.2.2.1 (X.2.2.2.2.1 _ kcX11_257) dX11_steady_19 ?_
        exact rL X hI hr (g_1 hm) hpm dX11_steady_22
      · have hm := g_f c3 hm
        refine lv_iload_n hx hb dX11_steady_14 rfl (lv_at hl 2 rfl) ?_
        refine lv_iconst (v := (1 : Int32)) hx hb dX11_steady_15 (by decide) ?_
        refine lv_icmp_le (tgt := 23) hx hb dX11_steady_16 (by decide) (fun c4 => ?_) (fun c4 => ?_)
        · have hm := g_t c4 hm
          refine lv_lconst (v := (1 : Int64)) hx hb dX11_steady_23 (by decide) ?_
          refine lv_lstore_n (lv' := [(3, .long (1 : Int64)), (0, .ref (ad 0)), (1, .int x1), (2, .int x2)]) hx hb dX11_steady_24 rfl hl (by decide) rfl (fun ls hl => ?_)
          refine lv_lconst (v := (1 : Int64)) hx hb dX11_steady_25 (by decide) ?_
          refine lv_lstore (lv' := [(5, .long (1 : Int64)), (3, .long (1 : Int64)), (0, .ref (ad 0)), (1, .int x1), (2, .int x2)]) hx hb dX11_steady_26 hl (by decide) rfl (fun ls hl => ?_)
          refine lv_iconst (v := (0 : Int32)) hx hb dX11_steady_28 (by decide) ?_
          refine lv_istore (lv' := [(7, .int (0 : Int32)), (5, .long (1 : Int64)), (3, .long (1 : Int64)), (0, .ref (ad 0)), (1, .int x1), (2, .int x2)]) hx hb dX11_steady_29 hl (by decide) rfl (fun ls hl => ?_)
          exact tX11_steady_31 N hn X hr fin m  N x1 x2 (1 : Int64) (1 : Int64) (0 : Int32) m H locs ls hI (lv_sub hl [3, 4, 5, 2, 1, 0] rfl) hm hpm
        · have hm := g_f c4 hm
          refine lv_ldc2 hx hb X.2.2.2.1 (X.2.2.2.2.1 _ kcX11_257) dX11_steady_19 ?_
          exact rL X hI hr (g_1 hm) hpm dX11_steady_22
abbrev rmX11_see : Room := { frames := 1, cells := 0, slots := 0, locals := 24 }
abbrev cwX11_see : Cond := .code yX11_see cX11_see 5 (some .int)
theorem cmX11_see : cwX11_see ∈ BIG := (tb5 (List.mem_of_getElem? (i := 67) rfl) rfl)
def fX11_see  (x1 : Int32) (x2 : Int32) (x3 : Int32) (x4 : Int32) (m : Mem) : Option (Int32 × Mem) := if x1 < (1 : Int32) then (some ((-1 : Int32), m)) else (if (60 : Int32) < x1 then (some ((-1 : Int32), m)) else (if lay (m.2.2 3) = (0, 6) then ((fX6_hasKnight (m.2.2 3) x2 m).bind (fun q4 => if q4 = 0 then (some ((-1 : Int32), m)) else (if x3 < 0 then (some ((-1 : Int32), m)) else (if x3 ≤ (99 : Int32) then ((fX1_record x1 x2 x3 x4 m).bind (fun q9 => some (q9.1, q9.2))) else (some ((-1 : Int32), m)))))) else none))
set_option maxHeartbeats 4000000 in
set_option maxRecDepth 100000 in
theorem ctX11_see {l : Launch} {D : va_G} {ca : Nat → ClassId} {ad : Nat → Nat}  (x1 : Int32) (x2 : Int32) (x3 : Int32) (x4 : Int32)  (hn : HNc ca) (m : Mem) (fin : (Int32 × Mem)) (hm : fX11_see x1 x2 x3 x4 m = some fin) : CI l D ca ad yX11_see cwX11_see rmX11_see [.ref (ad 0), .int x1, .int x2, .int x3, .int x4] m fin.1 fin.2 := by
  refine start (by decide) (Nat.le_of_ble_eq_true rfl) ?_
  intro p e s mm args below meth c H locs ls X hI hr hl
  have X : CX p s mm args meth c cX11_see 5 RX11 D ca ad (WA ca ad s.heap.size) := X
  have hx := X.1
  have hb := X.2.1
  have hl : lv_has ls 5 [(0, .ref (ad 0)), (1, .int x1), (2, .int x2), (3, .int x3), (4, .int x4)] := hl
  have hm : (if x1 < (1 : Int32) then (some ((-1 : Int32), m)) else (if (60 : Int32) < x1 then (some ((-1 : Int32), m)) else (if lay (m.2.2 3) = (0, 6) then ((fX6_hasKnight (m.2.2 3) x2 m).bind (fun q4 => if q4 = 0 then (some ((-1 : Int32), m)) else (if x3 < 0 then (some ((-1 : Int32), m)) else (if x3 ≤ (99 : Int32) then ((fX1_record x1 x2 x3 x4 m).bind (fun q9 => some (q9.1, q9.2))) else (some ((-1 : Int32), m)))))) else none))) = some fin := hm
  refine lv_iload_n hx hb dX11_see_0 rfl (lv_at hl 1 rfl) ?_
  refine lv_iconst (v := (1 : Int32)) hx hb dX11_see_1 (by decide) ?_
  refine lv_icmp_lt (tgt := 22) hx hb dX11_see_2 (by decide) (fun c1 => ?_) (fun c1 => ?_)
  · have hm := g_t c1 hm
    refine lv_iconst (v := (-1 : Int32)) hx hb dX11_see_22 (by decide) ?_
    exact rI X hI hr (g_p hm).1 (g_p hm).2 dX11_see_23
  · have hm := g_f c1 hm
    refine lv_iload_n hx hb dX11_see_5 rfl (lv_at hl 1 rfl) ?_
    refine lv_bipush (v := (60 : Int32)) hx hb dX11_see_6 (by decide) ?_
    refine lv_icmp_gt (tgt := 22) hx hb dX11_see_8 (by decide) (fun c2 => ?_) (fun c2 => ?_)
    · have hm := g_t c2 hm
      refine lv_iconst (v := (-1 : Int32)) hx hb dX11_see_22 (by decide) ?_
      exact rI X hI hr (g_p hm).1 (g_p hm).2 dX11_see_23
    · have hm := g_f c2 hm
      refine lv_aload_n hx hb dX11_see_11 rfl (lv_at hl 0 rfl) ?_
      obtain ⟨g3, hm⟩ := g_is hm
      refine gR X hI fdX11_27 (la_0 hn) rf11_3 dX11_see_12 ?_
      refine lv_iload_n hx hb dX11_see_15 rfl (lv_at hl 2 rfl) ?_
      obtain ⟨q4, h5, hm⟩ := g_b hm
      refine backI X hI (runV X hI (ctX6_hasKnight (m.2.2 3) x2 (lyO hn g3) hn _ _ h5 _) mdX11_154 (lyO hn g3) rfl ⟨rfl, rfl⟩ ⟨Nat.le_of_ble_eq_true rfl, Nat.le_of_ble_eq_true rfl⟩ rfl hl.1 rfl (Nat.le_of_ble_eq_true rfl) dX11_see_16) (fun H locs hI => ?_)
      refine lv_if_ne (tgt := 24) hx hb dX11_see_19 (by decide) (fun c6 => ?_) (fun c6 => ?_)
      · have hm := g_f c6 hm
        refine lv_iload_n hx hb dX11_see_24 rfl (lv_at hl 3 rfl) ?_
        refine lv_if_lt (tgt := 34) hx hb dX11_see_25 (by decide) (fun c7 => ?_) (fun c7 => ?_)
        · have hm := g_t c7 hm
          refine lv_iconst (v := (-1 : Int32)) hx hb dX11_see_34 (by decide) ?_
          exact rI X hI hr (g_p hm).1 (g_p hm).2 dX11_see_35
        · have hm := g_f c7 hm
          refine lv_iload_n hx hb dX11_see_28 rfl (lv_at hl 3 rfl) ?_
          refine lv_bipush (v := (99 : Int32)) hx hb dX11_see_29 (by decide) ?_
          refine lv_icmp_le (tgt := 36) hx hb dX11_see_31 (by decide) (fun c8 => ?_) (fun c8 => ?_)
          · have hm := g_t c8 hm
            refine lv_aload_n hx hb dX11_see_36 rfl (lv_at hl 0 rfl) ?_
            refine gR X hI fdX11_64 (la_0 hn) rf11_11 dX11_see_37 ?_
            refine lv_iload_n hx hb dX11_see_40 rfl (lv_at hl 1 rfl) ?_
            refine lv_iload_n hx hb dX11_see_41 rfl (lv_at hl 2 rfl) ?_
            refine lv_iload_n hx hb dX11_see_42 rfl (lv_at hl 3 rfl) ?_
            refine lv_iload hx hb dX11_see_43 (lv_at hl 4 rfl) ?_
            obtain ⟨q9, h10, hm⟩ := g_b hm
            refine backI X hI (runV X hI (ctX1_record x1 x2 x3 x4  hn _ _ h10 _) mdX11_296 (la_76 hn) rfl ⟨rfl, rfl⟩ ⟨Nat.le_of_ble_eq_true rfl, Nat.le_of_ble_eq_true rfl⟩ rfl hl.1 rfl (Nat.le_of_ble_eq_true rfl) dX11_see_45) (fun H locs hI => ?_)
            exact rI X hI hr (g_p hm).1 (g_p hm).2 dX11_see_48
          · have hm := g_f c8 hm
            refine lv_iconst (v := (-1 : Int32)) hx hb dX11_see_34 (by decide) ?_
            exact rI X hI hr (g_p hm).1 (g_p hm).2 dX11_see_35
      · have hm := g_t c6 hm
        refine lv_iconst (v := (-1 : Int32)) hx hb dX11_see_22 (by decide) ?_
        exact rI X hI hr (g_p hm).1 (g_p hm).2 dX11_see_23
abbrev rmX11_strike : Room := { frames := 2, cells := 0, slots := 0, locals := 46 }
abbrev cwX11_strike : Cond := .code yX11_strike cX11_strike 2 (some .int)
theorem cmX11_strike : cwX11_strike ∈ BIG := (tb5 (List.mem_of_getElem? (i := 75) rfl) rfl)
def fX11_strike  (x1 : Int32) (m : Mem) : Option (Int32 × Mem) := (fX1_recordStrike x1 m).bind (fun q1 => some (q1.1, q1.2))
set_option maxHeartbeats 4000000 in
set_option maxRecDepth 100000 in
theorem ctX11_strike {l : Launch} {D : va_G} {ca : Nat → ClassId} {ad : Nat → Nat}  (x1 : Int32)  (hn : HNc ca) (m : Mem) (fin : (Int32 × Mem)) (hm : fX11_strike x1 m = some fin) : CI l D ca ad yX11_strike cwX11_strike rmX11_strike [.ref (ad 0), .int x1] m fin.1 fin.2 := by
  refine start (by decide) (Nat.le_of_ble_eq_true rfl) ?_
  intro p e s mm args below meth c H locs ls X hI hr hl
  have X : CX p s mm args meth c cX11_strike 2 RX11 D ca ad (WA ca ad s.heap.size) := X
  have hx := X.1
  have hb := X.2.1
  have hl : lv_has ls 2 [(0, .ref (ad 0)), (1, .int x1)] := hl
  have hm : ((fX1_recordStrike x1 m).bind (fun q1 => some (q1.1, q1.2))) = some fin := hm
  refine lv_aload_n hx hb dX11_strike_0 rfl (lv_at hl 0 rfl) ?_
  refine gR X hI fdX11_64 (la_0 hn) rf11_11 dX11_strike_1 ?_
  refine lv_iload_n hx hb dX11_strike_4 rfl (lv_at hl 1 rfl) ?_
  obtain ⟨q1, h2, hm⟩ := g_b hm
  refine backI X hI (runV X hI (ctX1_recordStrike x1  hn _ _ h2 _) mdX11_300 (la_76 hn) rfl ⟨rfl, rfl⟩ ⟨Nat.le_of_ble_eq_true rfl, Nat.le_of_ble_eq_true rfl⟩ rfl hl.1 rfl (Nat.le_of_ble_eq_true rfl) dX11_strike_5) (fun H locs hI => ?_)
  exact rI X hI hr (g_p hm).1 (g_p hm).2 dX11_strike_8
abbrev rmX11_known : Room := { frames := 0, cells := 0, slots := 0, locals := 0 }
abbrev cwX11_known : Cond := .code yX11_known cX11_known 2 (some .boolean)
theorem cmX11_known : cwX11_known ∈ BIG := (tb5 (List.mem_of_getElem? (i := 84) rfl) rfl)
def fX11_known  (x1 : Int32) (m : Mem) : Option (Int32 × Mem) := if x1 < (-1 : Int32) then (some ((0 : Int32), m)) else (if x1 ≤ (m.1 76 6) then (some ((1 : Int32), (mI m 76 7 x1))) else (some ((0 : Int32), m)))
set_option maxHeartbeats 4000000 in
set_option maxRecDepth 100000 in
theorem ctX11_known {l : Launch} {D : va_G} {ca : Nat → ClassId} {ad : Nat → Nat}  (x1 : Int32)  (hn : HNc ca) (m : Mem) (fin : (Int32 × Mem)) (hm : fX11_known x1 m = some fin) : CI l D ca ad yX11_known cwX11_known rmX11_known [.ref (ad 0), .int x1] m fin.1 fin.2 := by
  refine start (by decide) (Nat.le_of_ble_eq_true rfl) ?_
  intro p e s mm args below meth c H locs ls X hI hr hl
  have X : CX p s mm args meth c cX11_known 2 RX11 D ca ad (WA ca ad s.heap.size) := X
  have hx := X.1
  have hb := X.2.1
  have hl : lv_has ls 2 [(0, .ref (ad 0)), (1, .int x1)] := hl
  have hm : (if x1 < (-1 : Int32) then (some ((0 : Int32), m)) else (if x1 ≤ (m.1 76 6) then (some ((1 : Int32), (mI m 76 7 x1))) else (some ((0 : Int32), m)))) = some fin := hm
  refine lv_iload_n hx hb dX11_known_0 rfl (lv_at hl 1 rfl) ?_
  refine lv_iconst (v := (-1 : Int32)) hx hb dX11_known_1 (by decide) ?_
  refine lv_icmp_lt (tgt := 16) hx hb dX11_known_2 (by decide) (fun c1 => ?_) (fun c1 => ?_)
  · have hm := g_t c1 hm
    refine lv_iconst (v := (0 : Int32)) hx hb dX11_known_16 (by decide) ?_
    exact rZ X hI hr (by decide) (g_p hm).1 (g_p hm).2 dX11_known_17
  · have hm := g_f c1 hm
    refine lv_iload_n hx hb dX11_known_5 rfl (lv_at hl 1 rfl) ?_
    refine lv_aload_n hx hb dX11_known_6 rfl (lv_at hl 0 rfl) ?_
    refine gR X hI fdX11_64 (la_0 hn) rf11_11 dX11_known_7 ?_
    refine gI X hI fdX11_303 (la_76 hn) dX11_known_10 ?_
    refine lv_icmp_le (tgt := 18) hx hb dX11_known_13 (by decide) (fun c2 => ?_) (fun c2 => ?_)
    · have hm := g_t c2 hm
      refine lv_aload_n hx hb dX11_known_18 rfl (lv_at hl 0 rfl) ?_
      refine gR X hI fdX11_64 (la_0 hn) rf11_11 dX11_known_19 ?_
      refine lv_iload_n hx hb dX11_known_22 rfl (lv_at hl 1 rfl) ?_
      refine pI X hI fpX11_304 (la_76 hn) dX11_known_23 (fun H locs hI => ?_)
      refine lv_iconst (v := (1 : Int32)) hx hb dX11_known_26 (by decide) ?_
      exact rZ X hI hr (by decide) (g_p hm).1 (g_p hm).2 dX11_known_27
    · have hm := g_f c2 hm
      refine lv_iconst (v := (0 : Int32)) hx hb dX11_known_16 (by decide) ?_
      exact rZ X hI hr (by decide) (g_p hm).1 (g_p hm).2 dX11_known_17
abbrev rmX11_borne : Room := { frames := 7, cells := 0, slots := 0, locals := 183 }
abbrev cwX11_borne : Cond := .code yX11_borne cX11_borne 2 (some .int)
theorem cmX11_borne : cwX11_borne ∈ BIG := (tb5 (List.mem_of_getElem? (i := 88) rfl) rfl)
def fX11_borne (N : Nat) (x1 : Int32) (m : Mem) : Option (Int32 × Mem) := if lay (m.2.2 3) = (0, 6) then ((fX6_hasKnight (m.2.2 3) x1 m).bind (fun q2 => if q2 = 0 then (some ((-1 : Int32), m)) else ((fX1_sift N m).bind (fun q5 => if lay (q5.2.2 3) = (0, 6) then ((fX5_asItGoes (q5.2.2 3) q5).bind (fun q8 => if lay (q8.2.2 3) = (0, 6) then ((fX1_lastMinute N q8).bind (fun q11 => (fX2_find N (q8.2.2 3) x1 q11 q8).bind (fun q13 => some (q13.1, q13.2)))) else none)) else none)))) else none
set_option maxHeartbeats 4000000 in
set_option maxRecDepth 100000 in
theorem ctX11_borne {l : Launch} {D : va_G} {ca : Nat → ClassId} {ad : Nat → Nat} (N : Nat) (x1 : Int32)  (hn : HNc ca) (m : Mem) (fin : (Int32 × Mem)) (hm : fX11_borne N x1 m = some fin) : CI l D ca ad yX11_borne cwX11_borne rmX11_borne [.ref (ad 0), .int x1] m fin.1 fin.2 := by
  refine start (by decide) (Nat.le_of_ble_eq_true rfl) ?_
  intro p e s mm args below meth c H locs ls X hI hr hl
  have X : CX p s mm args meth c cX11_borne 2 RX11 D ca ad (WA ca ad s.heap.size) := X
  have hx := X.1
  have hb := X.2.1
  have hl : lv_has ls 2 [(0, .ref (ad 0)), (1, .int x1)] := hl
  have hm : (if lay (m.2.2 3) = (0, 6) then ((fX6_hasKnight (m.2.2 3) x1 m).bind (fun q2 => if q2 = 0 then (some ((-1 : Int32), m)) else ((fX1_sift N m).bind (fun q5 => if lay (q5.2.2 3) = (0, 6) then ((fX5_asItGoes (q5.2.2 3) q5).bind (fun q8 => if lay (q8.2.2 3) = (0, 6) then ((fX1_lastMinute N q8).bind (fun q11 => (fX2_find N (q8.2.2 3) x1 q11 q8).bind (fun q13 => some (q13.1, q13.2)))) else none)) else none)))) else none) = some fin := hm
  refine lv_aload_n hx hb dX11_borne_0 rfl (lv_at hl 0 rfl) ?_
  obtain ⟨g1, hm⟩ := g_is hm
  refine gR X hI fdX11_27 (la_0 hn) rf11_3 dX11_borne_1 ?_
  refine lv_iload_n hx hb dX11_borne_4 rfl (lv_at hl 1 rfl) ?_
  obtain ⟨q2, h3, hm⟩ := g_b hm
  refine backI X hI (runV X hI (ctX6_hasKnight (m.2.2 3) x1 (lyO hn g1) hn _ _ h3 _) mdX11_154 (lyO hn g1) rfl ⟨rfl, rfl⟩ ⟨Nat.le_of_ble_eq_true rfl, Nat.le_of_ble_eq_true rfl⟩ rfl hl.1 rfl (Nat.le_of_ble_eq_true rfl) dX11_borne_5) (fun H locs hI => ?_)
  refine lv_if_ne (tgt := 13) hx hb dX11_borne_8 (by decide) (fun c4 => ?_) (fun c4 => ?_)
  · have hm := g_f c4 hm
    refine lv_aload_n hx hb dX11_borne_13 rfl (lv_at hl 0 rfl) ?_
    refine gR X hI fdX11_64 (la_0 hn) rf11_11 dX11_borne_14 ?_
    obtain ⟨q5, h6, hm⟩ := g_b hm
    refine backV X hI (runV X hI (ctX1_sift N  hn _ _ h6 _) mdX11_307 (la_76 hn) rfl ⟨rfl, rfl⟩ ⟨Nat.le_of_ble_eq_true rfl, Nat.le_of_ble_eq_true rfl⟩ rfl hl.1 rfl (Nat.le_of_ble_eq_true rfl) dX11_borne_17) (fun H locs hI => ?_)
    refine lv_aload_n hx hb dX11_borne_20 rfl (lv_at hl 0 rfl) ?_
    refine gR X hI fdX11_50 (la_0 hn) rf11_9 dX11_borne_21 ?_
    refine lv_aload_n hx hb dX11_borne_24 rfl (lv_at hl 0 rfl) ?_
    obtain ⟨g7, hm⟩ := g_is hm
    refine gR X hI fdX11_27 (la_0 hn) rf11_3 dX11_borne_25 ?_
    obtain ⟨q8, h9, hm⟩ := g_b hm
    refine backV X hI (runV X hI (ctX5_asItGoes (q5.2.2 3) (lyO hn g7) hn _ _ h9 _) mdX11_229 (la_73 hn) rfl ⟨rfl, rfl⟩ ⟨Nat.le_of_ble_eq_true rfl, Nat.le_of_ble_eq_true rfl⟩ rfl hl.1 rfl (Nat.le_of_ble_eq_true rfl) dX11_borne_28) (fun H locs hI => ?_)
    refine lv_aload_n hx hb dX11_borne_31 rfl (lv_at hl 0 rfl) ?_
    refine gR X hI fdX11_71 (la_0 hn) rf11_12 dX11_borne_32 ?_
    refine lv_aload_n hx hb dX11_borne_35 rfl (lv_at hl 0 rfl) ?_
    obtain ⟨g10, hm⟩ := g_is hm
    refine gR X hI fdX11_27 (la_0 hn) rf11_3 dX11_borne_36 ?_
    refine lv_aload_n hx hb dX11_borne_39 rfl (lv_at hl 0 rfl) ?_
    refine gR X hI fdX11_50 (la_0 hn) rf11_9 dX11_borne_40 ?_
    refine lv_aload_n hx hb dX11_borne_43 rfl (lv_at hl 0 rfl) ?_
    refine gR X hI fdX11_64 (la_0 hn) rf11_11 dX11_borne_44 ?_
    refine lv_iload_n hx hb dX11_borne_47 rfl (lv_at hl 1 rfl) ?_
    refine lv_aload_n hx hb dX11_borne_48 rfl (lv_at hl 0 rfl) ?_
    refine gR X hI fdX11_64 (la_0 hn) rf11_11 dX11_borne_49 ?_
    obtain ⟨q11, h12, hm⟩ := g_b hm
    refine backI X hI (runV X hI (ctX1_lastMinute N  hn _ _ h12 _) mdX11_310 (la_76 hn) rfl ⟨rfl, rfl⟩ ⟨Nat.le_of_ble_eq_true rfl, Nat.le_of_ble_eq_true rfl⟩ rfl hl.1 rfl (Nat.le_of_ble_eq_true rfl) dX11_borne_52) (fun H locs hI => ?_)
    obtain ⟨q13, h14, hm⟩ := g_b hm
    refine backI X hI (runV X hI (ctX2_find N (q8.2.2 3) x1 q11 (lyO hn g10) hn _ _ h14 _) mdX11_314 (la_83 hn) rfl ⟨rfl, rfl⟩ ⟨Nat.le_of_ble_eq_true rfl, Nat.le_of_ble_eq_true rfl⟩ rfl hl.1 rfl (Nat.le_of_ble_eq_true rfl) dX11_borne_55) (fun H locs hI => ?_)
    exact rI X hI hr (g_p hm).1 (g_p hm).2 dX11_borne_58
  · have hm := g_t c4 hm
    refine lv_iconst (v := (-1 : Int32)) hx hb dX11_borne_11 (by decide) ?_
    exact rI X hI hr (g_p hm).1 (g_p hm).2 dX11_borne_12
abbrev rmX11_ask : Room := { frames := 7, cells := 0, slots := 0, locals := 183 }
abbrev cwX11_ask : Cond := .code yX11_ask cX11_ask 3 (some .int)
theorem cmX11_ask : cwX11_ask ∈ BIG := (tb5 (List.mem_of_getElem? (i := 116) rfl) rfl)
def fX11_ask (N : Nat) (x1 : Int32) (x2 : Int32) (m : Mem) : Option (Int32 × Mem) := if lay (m.2.2 3) = (0, 6) then ((fX6_hasKnight (m.2.2 3) x1 m).bind (fun q2 => if q2 = 0 then (some ((-1 : Int32), m)) else (if x2 < 0 then (some ((-1 : Int32), m)) else (if x2 ≤ (1 : Int32) then ((fX1_sift N m).bind (fun q7 => if lay (q7.2.2 3) = (0, 6) then ((fX5_asItGoes (q7.2.2 3) q7).bind (fun q10 => if lay (q10.2.2 3) = (0, 6) then ((fX2_find N (q10.2.2 3) x1 (60 : Int32) q10).bind (fun q13 => (fX2_findQuestion N q13.2).bind (fun q15 => if x2 = 0 then (some ((q15.1 83 3), q15)) else (some ((q15.1 83 4), q15))))) else none)) else none)) else (some ((-1 : Int32), m)))))) else none
set_option maxHeartbeats 4000000 in
set_option maxRecDepth 100000 in
theorem ctX11_ask {l : Launch} {D : va_G} {ca : Nat → ClassId} {ad : Nat → Nat} (N : Nat) (x1 : Int32) (x2 : Int32)  (hn : HNc ca) (m : Mem) (fin : (Int32 × Mem)) (hm : fX11_ask N x1 x2 m = some fin) : CI l D ca ad yX11_ask cwX11_ask rmX11_ask [.ref (ad 0), .int x1, .int x2] m fin.1 fin.2 := by
  refine start (by decide) (Nat.le_of_ble_eq_true rfl) ?_
  intro p e s mm args below meth c H locs ls X hI hr hl
  have X : CX p s mm args meth c cX11_ask 3 RX11 D ca ad (WA ca ad s.heap.size) := X
  have hx := X.1
  have hb := X.2.1
  have hl : lv_has ls 3 [(0, .ref (ad 0)), (1, .int x1), (2, .int x2)] := hl
  have hm : (if lay (m.2.2 3) = (0, 6) then ((fX6_hasKnight (m.2.2 3) x1 m).bind (fun q2 => if q2 = 0 then (some ((-1 : Int32), m)) else (if x2 < 0 then (some ((-1 : Int32), m)) else (if x2 ≤ (1 : Int32) then ((fX1_sift N m).bind (fun q7 => if lay (q7.2.2 3) = (0, 6) then ((fX5_asItGoes (q7.2.2 3) q7).bind (fun q10 => if lay (q10.2.2 3) = (0, 6) then ((fX2_find N (q10.2.2 3) x1 (60 : Int32) q10).bind (fun q13 => (fX2_findQuestion N q13.2).bind (fun q15 => if x2 = 0 then (some ((q15.1 83 3), q15)) else (some ((q15.1 83 4), q15))))) else none)) else none)) else (some ((-1 : Int32), m)))))) else none) = some fin := hm
  refine lv_aload_n hx hb dX11_ask_0 rfl (lv_at hl 0 rfl) ?_
  obtain ⟨g1, hm⟩ := g_is hm
  refine gR X hI fdX11_27 (la_0 hn) rf11_3 dX11_ask_1 ?_
  refine lv_iload_n hx hb dX11_ask_4 rfl (lv_at hl 1 rfl) ?_
  obtain ⟨q2, h3, hm⟩ := g_b hm
  refine backI X hI (runV X hI (ctX6_hasKnight (m.2.2 3) x1 (lyO hn g1) hn _ _ h3 _) mdX11_154 (lyO hn g1) rfl ⟨rfl, rfl⟩ ⟨Nat.le_of_ble_eq_true rfl, Nat.le_of_ble_eq_true rfl⟩ rfl hl.1 rfl (Nat.le_of_ble_eq_true rfl) dX11_ask_5) (fun H locs hI => ?_)
  refine lv_if_eq (tgt := 20) hx hb dX11_ask_8 (by decide) (fun c4 => ?_) (fun c4 => ?_)
  · have hm := g_t c4 hm
    refine lv_iconst (v := (-1 : Int32)) hx hb dX11_ask_20 (by decide) ?_
    exact rI X hI hr (g_p hm).1 (g_p hm).2 dX11_ask_21
  · have hm := g_f c4 hm
    refine lv_iload_n hx hb dX11_ask_11 rfl (lv_at hl 2 rfl) ?_
    refine lv_if_lt (tgt := 20) hx hb dX11_ask_12 (by decide) (fun c5 => ?_) (fun c5 => ?_)
    · have hm := g_t c5 hm
      refine lv_iconst (v := (-1 : Int32)) hx hb dX11_ask_20 (by decide) ?_
      exact rI X hI hr (g_p hm).1 (g_p hm).2 dX11_ask_21
    · have hm := g_f c5 hm
      refine lv_iload_n hx hb dX11_ask_15 rfl (lv_at hl 2 rfl) ?_
      refine lv_iconst (v := (1 : Int32)) hx hb dX11_ask_16 (by decide) ?_
      refine lv_icmp_le (tgt := 22) hx hb dX11_ask_17 (by decide) (fun c6 => ?_) (fun c6 => ?_)
      · have hm := g_t c6 hm
        refine lv_aload_n hx hb dX11_ask_22 rfl (lv_at hl 0 rfl) ?_
        refine gR X hI fdX11_64 (la_0 hn) rf11_11 dX11_ask_23 ?_
        obtain ⟨q7, h8, hm⟩ := g_b hm
        refine backV X hI (runV X hI (ctX1_sift N  hn _ _ h8 _) mdX11_307 (la_76 hn) rfl ⟨rfl, rfl⟩ ⟨Nat.le_of_ble_eq_true rfl, Nat.le_of_ble_eq_true rfl⟩ rfl hl.1 rfl (Nat.le_of_ble_eq_true rfl) dX11_ask_26) (fun H locs hI => ?_)
        refine lv_aload_n hx hb dX11_ask_29 rfl (lv_at hl 0 rfl) ?_
        refine gR X hI fdX11_50 (la_0 hn) rf11_9 dX11_ask_30 ?_
        refine lv_aload_n hx hb dX11_ask_33 rfl (lv_at hl 0 rfl) ?_
        obtain ⟨g9, hm⟩ := g_is hm
        refine gR X hI fdX11_27 (la_0 hn) rf11_3 dX11_ask_34 ?_
        obtain ⟨q10, h11, hm⟩ := g_b hm
        refine backV X hI (runV X hI (ctX5_asItGoes (q7.2.2 3) (lyO hn g9) hn _ _ h11 _) mdX11_229 (la_73 hn) rfl ⟨rfl, rfl⟩ ⟨Nat.le_of_ble_eq_true rfl, Nat.le_of_ble_eq_true rfl⟩ rfl hl.1 rfl (Nat.le_of_ble_eq_true rfl) dX11_ask_37) (fun H locs hI => ?_)
        refine lv_aload_n hx hb dX11_ask_40 rfl (lv_at hl 0 rfl) ?_
        refine gR X hI fdX11_71 (la_0 hn) rf11_12 dX11_ask_41 ?_
        refine lv_aload_n hx hb dX11_ask_44 rfl (lv_at hl 0 rfl) ?_
        obtain ⟨g12, hm⟩ := g_is hm
        refine gR X hI fdX11_27 (la_0 hn) rf11_3 dX11_ask_45 ?_
        refine lv_aload_n hx hb dX11_ask_48 rfl (lv_at hl 0 rfl) ?_
        refine gR X hI fdX11_50 (la_0 hn) rf11_9 dX11_ask_49 ?_
        refine lv_aload_n hx hb dX11_ask_52 rfl (lv_at hl 0 rfl) ?_
        refine gR X hI fdX11_64 (la_0 hn) rf11_11 dX11_ask_53 ?_
        refine lv_iload_n hx hb dX11_ask_56 rfl (lv_at hl 1 rfl) ?_
        refine lv_bipush (v := (60 : Int32)) hx hb dX11_ask_57 (by decide) ?_
        obtain ⟨q13, h14, hm⟩ := g_b hm
        refine backI X hI (runV X hI (ctX2_find N (q10.2.2 3) x1 (60 : Int32) (lyO hn g12) hn _ _ h14 _) mdX11_314 (la_83 hn) rfl ⟨rfl, rfl⟩ ⟨Nat.le_of_ble_eq_true rfl, Nat.le_of_ble_eq_true rfl⟩ rfl hl.1 rfl (Nat.le_of_ble_eq_true rfl) dX11_ask_59) (fun H locs hI => ?_)
        refine lv_pop hx hb dX11_ask_62 rfl ?_
        refine lv_aload_n hx hb dX11_ask_63 rfl (lv_at hl 0 rfl) ?_
        refine gR X hI fdX11_71 (la_0 hn) rf11_12 dX11_ask_64 ?_
        obtain ⟨q15, h16, hm⟩ := g_b hm
        refine backV X hI (runV X hI (ctX2_findQuestion N  hn _ _ h16 _) mdX11_317 (la_83 hn) rfl ⟨rfl, rfl⟩ ⟨Nat.le_of_ble_eq_true rfl, Nat.le_of_ble_eq_true rfl⟩ rfl hl.1 rfl (Nat.le_of_ble_eq_true rfl) dX11_ask_67) (fun H locs hI => ?_)
        refine lv_iload_n hx hb dX11_ask_70 rfl (lv_at hl 2 rfl) ?_
        refine lv_if_ne (tgt := 84) hx hb dX11_ask_71 (by decide) (fun c17 => ?_) (fun c17 => ?_)
        · have hm := g_f c17 hm
          refine lv_aload_n hx hb dX11_ask_84 rfl (lv_at hl 0 rfl) ?_
          refine gR X hI fdX11_71 (la_0 hn) rf11_12 dX11_ask_85 ?_
          refine gI X hI fdX11_323 (la_83 hn) dX11_ask_88 ?_
          exact rI X hI hr (g_p hm).1 (g_p hm).2 dX11_ask_91
        · have hm := g_t c17 hm
          refine lv_aload_n hx hb dX11_ask_74 rfl (lv_at hl 0 rfl) ?_
          refine gR X hI fdX11_71 (la_0 hn) rf11_12 dX11_ask_75 ?_
          refine gI X hI fdX11_320 (la_83 hn) dX11_ask_78 ?_
          refine lv_goto (tgt := 91) hx hb dX11_ask_81 (by decide) ?_
          exact rI X hI hr (g_p hm).1 (g_p hm).2 dX11_ask_91
      · have hm := g_f c6 hm
        refine lv_iconst (v := (-1 : Int32)) hx hb dX11_ask_20 (by decide) ?_
        exact rI X hI hr (g_p hm).1 (g_p hm).2 dX11_ask_21
abbrev rmX11_chance : Room := { frames := 7, cells := 0, slots := 0, locals := 179 }
abbrev cwX11_chance : Cond := .code yX11_chance cX11_chance 8 (some .int)
theorem cmX11_chance : cwX11_chance ∈ BIG := (tb5 (List.mem_of_getElem? (i := 131) rfl) rfl)
def fX11_chance_45 (N : Nat) : Nat → Int32 → Int32 → Int64 → Int32 → Int32 → Mem → Option (Int32 × Mem)
  | 0, _, _, _, _, _, _ => none
  | n + 1, x2, x3, x4, x6, x7, m => if (10 : Int32) ≤ x7 then (some (x6, m)) else ((fX0_become 53 43 m).bind (fun q11 => if lay ((mJ q11 53 11 x4).2.2 3) = (0, 6) then ((fX5_passMany N ((mJ q11 53 11 x4).2.2 3) 53 x2 (mJ q11 53 11 x4)).bind (fun q14 => if x3 < 0 ∨ 6 ≤ x3.toNatClampNeg then none else (if (q14.1 58 x3.toNatClampNeg) < 0 then (fX11_chance_45 N n x2 x3 (q14.2.1 53 11) x6 (x7 + (1 : Int32)) q14) else (fX11_chance_45 N n x2 x3 (q14.2.1 53 11) (x6 + (1 : Int32)) (x7 + (1 : Int32)) q14)))) else none))
set_option maxHeartbeats 4000000 in
set_option maxRecDepth 100000 in
theorem tX11_chance_45 (N : Nat) {l : Launch} {D : va_G} {ca : Nat → ClassId} {ad : Nat → Nat} {p : Program} {e : Env} {s : State} {mm : MethodId} {args : Array Value} {below : List Frame} {meth : Method} {c : Code}  (hn : HNc ca) (X : CX p s mm args meth c cX11_chance 8 RX11 D ca ad (WA ca ad s.heap.size)) (hr : meth.sig.returnType = (some .int)) (fin : (Int32 × Mem))  : ∀ (n : Nat) (x2 : Int32) (x3 : Int32) (x4 : Int64) (x6 : Int32) (x7 : Int32) (m : Mem) (H : Heap) (locs : List Loc) (ls : Array Slot), IW D ca ad (WA ca ad s.heap.size) s m H locs → lv_has ls 8 [(0, .ref (ad 0)), (2, .int x2), (3, .int x3), (4, .long x4), (6, .int x6), (7, .int x7)] → fX11_chance_45 N n x2 x3 x4 x6 x7 m = some fin → W p l e rmX11_chance s mm args below meth c H locs 0 0 (MQ below (QI D ca ad s.heap.size fin.1 fin.2) args s 0 0 (WA ca ad s.heap.size)) (F0 mm 45 ls []) := by
  have hx := X.1
  have hb := X.2.1
  intro n
  induction n with
  | zero => intro x2 x3 x4 x6 x7 m H locs ls hI hl hm
            exact absurd hm (by intro q; cases q)
  | succ n ih =>
    intro x2 x3 x4 x6 x7 m H locs ls hI hl hm
    have hm : (if (10 : Int32) ≤ x7 then (some (x6, m)) else ((fX0_become 53 43 m).bind (fun q11 => if lay ((mJ q11 53 11 x4).2.2 3) = (0, 6) then ((fX5_passMany N ((mJ q11 53 11 x4).2.2 3) 53 x2 (mJ q11 53 11 x4)).bind (fun q14 => if x3 < 0 ∨ 6 ≤ x3.toNatClampNeg then none else (if (q14.1 58 x3.toNatClampNeg) < 0 then (fX11_chance_45 N n x2 x3 (q14.2.1 53 11) x6 (x7 + (1 : Int32)) q14) else (fX11_chance_45 N n x2 x3 (q14.2.1 53 11) (x6 + (1 : Int32)) (x7 + (1 : Int32)) q14)))) else none))) = some fin := hm
    refine lv_iload hx hb dX11_chance_45 (lv_at hl 5 rfl) ?_
    refine lv_bipush (v := (10 : Int32)) hx hb dX11_chance_47 (by decide) ?_
    refine lv_icmp_ge (tgt := 118) hx hb dX11_chance_49 (by decide) (fun c10 => ?_) (fun c10 => ?_)
    · have hm := g_t c10 hm
      refine lv_iload hx hb dX11_chance_118 (lv_at hl 4 rfl) ?_
      exact rI X hI hr (g_p hm).1 (g_p hm).2 dX11_chance_120
    · have hm := g_f c10 hm
      refine lv_aload_n hx hb dX11_chance_52 rfl (lv_at hl 0 rfl) ?_
      refine gR X hI fdX11_41 (la_0 hn) rf11_6 dX11_chance_53 ?_
      refine lv_aload_n hx hb dX11_chance_56 rfl (lv_at hl 0 rfl) ?_
      refine gR X hI fdX11_37 (la_0 hn) rf11_5 dX11_chance_57 ?_
      obtain ⟨q11, h12, hm⟩ := g_b hm
      refine backV X hI (runV X hI (ctX0_become 53 43 (la_53 hn) (la_43 hn) hn _ _ h12 _) mdX11_226 (la_53 hn) rfl ⟨rfl, rfl⟩ ⟨Nat.le_of_ble_eq_true rfl, Nat.le_of_ble_eq_true rfl⟩ rfl hl.1 rfl (Nat.le_of_ble_eq_true rfl) dX11_chance_60) (fun H locs hI => ?_)
      refine lv_aload_n hx hb dX11_chance_63 rfl (lv_at hl 0 rfl) ?_
      refine gR X hI fdX11_41 (la_0 hn) rf11_6 dX11_chance_64 ?_
      refine lv_lload hx hb dX11_chance_67 (lv_at hl 3 rfl) ?_
      refine pL X hI fpX11_326 (la_53 hn) dX11_chance_69 (fun H locs hI => ?_)
      refine lv_aload_n hx hb dX11_chance_72 rfl (lv_at hl 0 rfl) ?_
      refine gR X hI fdX11_50 (la_0 hn) rf11_9 dX11_chance_73 ?_
      refine lv_aload_n hx hb dX11_chance_76 rfl (lv_at hl 0 rfl) ?_
      obtain ⟨g13, hm⟩ := g_is hm
      refine gR X hI fdX11_27 (la_0 hn) rf11_3 dX11_chance_77 ?_
      refine lv_aload_n hx hb dX11_chance_80 rfl (lv_at hl 0 rfl) ?_
      refine gR X hI fdX11_41 (la_0 hn) rf11_6 dX11_chance_81 ?_
      refine lv_iload_n hx hb dX11_chance_84 rfl (lv_at hl 1 rfl) ?_
      obtain ⟨q14, h15, hm⟩ := g_b hm
      refine backV X hI (runV X hI (ctX5_passMany N ((mJ q11 53 11 x4).2.2 3) 53 x2 (lyO hn g13) (la_53 hn) hn _ _ h15 _) mdX11_215 (la_73 hn) rfl ⟨rfl, rfl⟩ ⟨Nat.le_of_ble_eq_true rfl, Nat.le_of_ble_eq_true rfl⟩ rfl hl.1 rfl (Nat.le_of_ble_eq_true rfl) dX11_chance_85) (fun H locs hI => ?_)
      refine lv_aload_n hx hb dX11_chance_88 rfl (lv_at hl 0 rfl) ?_
      refine gR X hI fdX11_41 (la_0 hn) rf11_6 dX11_chance_89 ?_
      refine gL X hI fdX11_326 (la_53 hn) dX11_chance_92 ?_
      refine lv_lstore (lv' := [(4, .long (q14.2.1 53 11)), (0, .ref (ad 0)), (2, .int x2), (3, .int x3), (6, .int x6), (7, .int x7)]) hx hb dX11_chance_95 hl (by decide) rfl (fun ls hl => ?_)
      refine lv_aload_n hx hb dX11_chance_97 rfl (lv_at hl 1 rfl) ?_
      refine gR X hI fdX11_41 (la_0 hn) rf11_6 dX11_chance_98 ?_
      refine gR X hI fdX11_163 (la_53 hn) rf0_4 dX11_chance_101 ?_
      refine lv_iload_n hx hb dX11_chance_104 rfl (lv_at hl 3 rfl) ?_
      obtain ⟨g16, hm⟩ := g_no hm
      refine aI X hI (la_58 hn) g16 dX11_chance_105 ?_
      refine lv_if_lt (tgt := 112) hx hb dX11_chance_106 (by decide) (fun c17 => ?_) (fun c17 => ?_)
      · have hm := g_t c17 hm
        refine lv_iinc (v := (x7 + (1 : Int32))) (lv' := [(7, .int (x7 + (1 : Int32))), (4, .long (q14.2.1 53 11)), (0, .ref (ad 0)), (2, .int x2), (3, .int x3), (6, .int x6)]) hx hb dX11_chance_112 hl (k := 5) rfl rfl (by decide) rfl (fun ls hl => ?_)
        refine lv_goto (tgt := 45) hx hb dX11_chance_115 (by decide) ?_
        exact ih x2 x3 (q14.2.1 53 11) x6 (x7 + (1 : Int32)) q14 H locs ls hI (lv_sub hl [2, 3, 4, 1, 5, 0] rfl) hm
      · have hm := g_f c17 hm
        refine lv_iinc (v := (x6 + (1 : Int32))) (lv' := [(6, .int (x6 + (1 : Int32))), (4, .long (q14.2.1 53 11)), (0, .ref (ad 0)), (2, .int x2), (3, .int x3), (7, .int x7)]) hx hb dX11_chance_109 hl (k := 4) rfl rfl (by decide) rfl (fun ls hl => ?_)
        refine lv_iinc (v := (x7 + (1 : Int32))) (lv' := [(7, .int (x7 + (1 : Int32))), (6, .int (x6 + (1 : Int32))), (4, .long (q14.2.1 53 11)), (0, .ref (ad 0)), (2, .int x2), (3, .int x3)]) hx hb dX11_chance_112 hl (k := 5) rfl rfl (by decide) rfl (fun ls hl => ?_)
        refine lv_goto (tgt := 45) hx hb dX11_chance_115 (by decide) ?_
        exact ih x2 x3 (q14.2.1 53 11) (x6 + (1 : Int32)) (x7 + (1 : Int32)) q14 H locs ls hI (lv_sub hl [3, 4, 5, 2, 1, 0] rfl) hm
def fX11_chance (N : Nat) (x1 : Int32) (x2 : Int32) (x3 : Int32) (m : Mem) : Option (Int32 × Mem) := if x1 < 0 then (some ((-1 : Int32), m)) else (if x2 < (1 : Int32) then (some ((-1 : Int32), m)) else (if (99 : Int32) < x2 then (some ((-1 : Int32), m)) else (if lay (m.2.2 3) = (0, 6) then ((fX6_hasKnight (m.2.2 3) x3 m).bind (fun q5 => if q5 = 0 then (some ((-1 : Int32), m)) else ((fX5_drawn  m).bind (fun q8 => fX11_chance_45 N N x2 x3 x1.toInt64 (0 : Int32) (0 : Int32) q8)))) else none)))
set_option maxHeartbeats 4000000 in
set_option maxRecDepth 100000 in
theorem ctX11_chance {l : Launch} {D : va_G} {ca : Nat → ClassId} {ad : Nat → Nat} (N : Nat) (x1 : Int32) (x2 : Int32) (x3 : Int32)  (hn : HNc ca) (m : Mem) (fin : (Int32 × Mem)) (hm : fX11_chance N x1 x2 x3 m = some fin) : CI l D ca ad yX11_chance cwX11_chance rmX11_chance [.ref (ad 0), .int x1, .int x2, .int x3] m fin.1 fin.2 := by
  refine start (by decide) (Nat.le_of_ble_eq_true rfl) ?_
  intro p e s mm args below meth c H locs ls X hI hr hl
  have X : CX p s mm args meth c cX11_chance 8 RX11 D ca ad (WA ca ad s.heap.size) := X
  have hx := X.1
  have hb := X.2.1
  have hl : lv_has ls 8 [(0, .ref (ad 0)), (1, .int x1), (2, .int x2), (3, .int x3)] := hl
  have hm : (if x1 < 0 then (some ((-1 : Int32), m)) else (if x2 < (1 : Int32) then (some ((-1 : Int32), m)) else (if (99 : Int32) < x2 then (some ((-1 : Int32), m)) else (if lay (m.2.2 3) = (0, 6) then ((fX6_hasKnight (m.2.2 3) x3 m).bind (fun q5 => if q5 = 0 then (some ((-1 : Int32), m)) else ((fX5_drawn  m).bind (fun q8 => fX11_chance_45 N N x2 x3 x1.toInt64 (0 : Int32) (0 : Int32) q8)))) else none)))) = some fin := hm
  refine lv_iload_n hx hb dX11_chance_0 rfl (lv_at hl 1 rfl) ?_
  refine lv_if_lt (tgt := 26) hx hb dX11_chance_1 (by decide) (fun c1 => ?_) (fun c1 => ?_)
  · have hm := g_t c1 hm
    refine lv_iconst (v := (-1 : Int32)) hx hb dX11_chance_26 (by decide) ?_
    exact rI X hI hr (g_p hm).1 (g_p hm).2 dX11_chance_27
  · have hm := g_f c1 hm
    refine lv_iload_n hx hb dX11_chance_4 rfl (lv_at hl 2 rfl) ?_
    refine lv_iconst (v := (1 : Int32)) hx hb dX11_chance_5 (by decide) ?_
    refine lv_icmp_lt (tgt := 26) hx hb dX11_chance_6 (by decide) (fun c2 => ?_) (fun c2 => ?_)
    · have hm := g_t c2 hm
      refine lv_iconst (v := (-1 : Int32)) hx hb dX11_chance_26 (by decide) ?_
      exact rI X hI hr (g_p hm).1 (g_p hm).2 dX11_chance_27
    · have hm := g_f c2 hm
      refine lv_iload_n hx hb dX11_chance_9 rfl (lv_at hl 2 rfl) ?_
      refine lv_bipush (v := (99 : Int32)) hx hb dX11_chance_10 (by decide) ?_
      refine lv_icmp_gt (tgt := 26) hx hb dX11_chance_12 (by decide) (fun c3 => ?_) (fun c3 => ?_)
      · have hm := g_t c3 hm
        refine lv_iconst (v := (-1 : Int32)) hx hb dX11_chance_26 (by decide) ?_
        exact rI X hI hr (g_p hm).1 (g_p hm).2 dX11_chance_27
      · have hm := g_f c3 hm
        refine lv_aload_n hx hb dX11_chance_15 rfl (lv_at hl 0 rfl) ?_
        obtain ⟨g4, hm⟩ := g_is hm
        refine gR X hI fdX11_27 (la_0 hn) rf11_3 dX11_chance_16 ?_
        refine lv_iload_n hx hb dX11_chance_19 rfl (lv_at hl 3 rfl) ?_
        obtain ⟨q5, h6, hm⟩ := g_b hm
        refine backI X hI (runV X hI (ctX6_hasKnight (m.2.2 3) x3 (lyO hn g4) hn _ _ h6 _) mdX11_154 (lyO hn g4) rfl ⟨rfl, rfl⟩ ⟨Nat.le_of_ble_eq_true rfl, Nat.le_of_ble_eq_true rfl⟩ rfl hl.1 rfl (Nat.le_of_ble_eq_true rfl) dX11_chance_20) (fun H locs hI => ?_)
        refine lv_if_ne (tgt := 28) hx hb dX11_chance_23 (by decide) (fun c7 => ?_) (fun c7 => ?_)
        · have hm := g_f c7 hm
          refine lv_aload_n hx hb dX11_chance_28 rfl (lv_at hl 0 rfl) ?_
          refine gR X hI fdX11_50 (la_0 hn) rf11_9 dX11_chance_29 ?_
          obtain ⟨q8, h9, hm⟩ := g_b hm
          refine backV X hI (runV X hI (ctX5_drawn   hn _ _ h9 _) mdX11_212 (la_73 hn) rfl ⟨rfl, rfl⟩ ⟨Nat.le_of_ble_eq_true rfl, Nat.le_of_ble_eq_true rfl⟩ rfl hl.1 rfl (Nat.le_of_ble_eq_true rfl) dX11_chance_32) (fun H locs hI => ?_)
          refine lv_iload_n hx hb dX11_chance_35 rfl (lv_at hl 1 rfl) ?_
          refine lv_i2l hx hb dX11_chance_36 rfl ?_
          refine lv_lstore (lv' := [(4, .long x1.toInt64), (0, .ref (ad 0)), (1, .int x1), (2, .int x2), (3, .int x3)]) hx hb dX11_chance_37 hl (by decide) rfl (fun ls hl => ?_)
          refine lv_iconst (v := (0 : Int32)) hx hb dX11_chance_39 (by decide) ?_
          refine lv_istore (lv' := [(6, .int (0 : Int32)), (4, .long x1.toInt64), (0, .ref (ad 0)), (1, .int x1), (2, .int x2), (3, .int x3)]) hx hb dX11_chance_40 hl (by decide) rfl (fun ls hl => ?_)
          refine lv_iconst (v := (0 : Int32)) hx hb dX11_chance_42 (by decide) ?_
          refine lv_istore (lv' := [(7, .int (0 : Int32)), (6, .int (0 : Int32)), (4, .long x1.toInt64), (0, .ref (ad 0)), (1, .int x1), (2, .int x2), (3, .int x3)]) hx hb dX11_chance_43 hl (by decide) rfl (fun ls hl => ?_)
          exact tX11_chance_45 N hn X hr fin  N x2 x3 x1.toInt64 (0 : Int32) (0 : Int32) q8 H locs ls hI (lv_sub hl [3, 5, 6, 2, 1, 0] rfl) hm
        · have hm := g_t c7 hm
          refine lv_iconst (v := (-1 : Int32)) hx hb dX11_chance_26 (by decide) ?_
          exact rI X hI hr (g_p hm).1 (g_p hm).2 dX11_chance_27
abbrev rmX11_tried : Room := { frames := 7, cells := 0, slots := 0, locals := 179 }
abbrev cwX11_tried : Cond := .code yX11_tried cX11_tried 4 (some .int)
theorem cmX11_tried : cwX11_tried ∈ BIG := (tb5 (List.mem_of_getElem? (i := 135) rfl) rfl)
def fX11_tried_47 (N : Nat) (x1 : Int32) (x2 : Int32) (x3 : Int32) (m : Mem) : Option (Int32 × Mem) := (fX11_tryAsItGoes  m).bind (fun q7 => (fX5_otherwise x1 x2 q7).bind (fun q9 => if lay (q9.2.2 3) = (0, 6) then ((fX5_passMany N (q9.2.2 3) 53 x3 q9).bind (fun q12 => (fX11_sumOf N 59 q12).bind (fun q14 => some (q14, q12)))) else none))
set_option maxHeartbeats 4000000 in
set_option maxRecDepth 100000 in
theorem tX11_tried_47 (N : Nat) {l : Launch} {D : va_G} {ca : Nat → ClassId} {ad : Nat → Nat} {p : Program} {e : Env} {s : State} {mm : MethodId} {args : Array Value} {below : List Frame} {meth : Method} {c : Code}  (hn : HNc ca) (X : CX p s mm args meth c cX11_tried 4 RX11 D ca ad (WA ca ad s.heap.size)) (hr : meth.sig.returnType = (some .int)) (fin : (Int32 × Mem))  : ∀ (x1 : Int32) (x2 : Int32) (x3 : Int32) (m : Mem) (H : Heap) (locs : List Loc) (ls : Array Slot), IW D ca ad (WA ca ad s.heap.size) s m H locs → lv_has ls 4 [(0, .ref (ad 0)), (1, .int x1), (2, .int x2), (3, .int x3)] → fX11_tried_47 N x1 x2 x3 m = some fin → W p l e rmX11_tried s mm args below meth c H locs 0 0 (MQ below (QI D ca ad s.heap.size fin.1 fin.2) args s 0 0 (WA ca ad s.heap.size)) (F0 mm 47 ls []) := by
  have hx := X.1
  have hb := X.2.1
  intro x1 x2 x3 m H locs ls hI hl hm
  have hm : ((fX11_tryAsItGoes  m).bind (fun q7 => (fX5_otherwise x1 x2 q7).bind (fun q9 => if lay (q9.2.2 3) = (0, 6) then ((fX5_passMany N (q9.2.2 3) 53 x3 q9).bind (fun q12 => (fX11_sumOf N 59 q12).bind (fun q14 => some (q14, q12)))) else none))) = some fin := hm
  refine lv_aload_n hx hb dX11_tried_47 rfl (lv_at hl 0 rfl) ?_
  obtain ⟨q7, h8, hm⟩ := g_b hm
  refine backV X hI (runV X hI (ctX11_tryAsItGoes   hn _ _ h8 _) mdX11_219 (la_0 hn) rfl ⟨rfl, rfl⟩ ⟨Nat.le_of_ble_eq_true rfl, Nat.le_of_ble_eq_true rfl⟩ rfl hl.1 rfl (Nat.le_of_ble_eq_true rfl) dX11_tried_48) (fun H locs hI => ?_)
  refine lv_aload_n hx hb dX11_tried_51 rfl (lv_at hl 0 rfl) ?_
  refine gR X hI fdX11_50 (la_0 hn) rf11_9 dX11_tried_52 ?_
  refine lv_iload_n hx hb dX11_tried_55 rfl (lv_at hl 1 rfl) ?_
  refine lv_iload_n hx hb dX11_tried_56 rfl (lv_at hl 2 rfl) ?_
  obtain ⟨q9, h10, hm⟩ := g_b hm
  refine backV X hI (runV X hI (ctX5_otherwise x1 x2  hn _ _ h10 _) mdX11_330 (la_73 hn) rfl ⟨rfl, rfl⟩ ⟨Nat.le_of_ble_eq_true rfl, Nat.le_of_ble_eq_true rfl⟩ rfl hl.1 rfl (Nat.le_of_ble_eq_true rfl) dX11_tried_57) (fun H locs hI => ?_)
  refine lv_aload_n hx hb dX11_tried_60 rfl (lv_at hl 0 rfl) ?_
  refine gR X hI fdX11_50 (la_0 hn) rf11_9 dX11_tried_61 ?_
  refine lv_aload_n hx hb dX11_tried_64 rfl (lv_at hl 0 rfl) ?_
  obtain ⟨g11, hm⟩ := g_is hm
  refine gR X hI fdX11_27 (la_0 hn) rf11_3 dX11_tried_65 ?_
  refine lv_aload_n hx hb dX11_tried_68 rfl (lv_at hl 0 rfl) ?_
  refine gR X hI fdX11_41 (la_0 hn) rf11_6 dX11_tried_69 ?_
  refine lv_iload_n hx hb dX11_tried_72 rfl (lv_at hl 3 rfl) ?_
  obtain ⟨q12, h13, hm⟩ := g_b hm
  refine backV X hI (runV X hI (ctX5_passMany N (q9.2.2 3) 53 x3 (lyO hn g11) (la_53 hn) hn _ _ h13 _) mdX11_215 (la_73 hn) rfl ⟨rfl, rfl⟩ ⟨Nat.le_of_ble_eq_true rfl, Nat.le_of_ble_eq_true rfl⟩ rfl hl.1 rfl (Nat.le_of_ble_eq_true rfl) dX11_tried_73) (fun H locs hI => ?_)
  refine lv_aload_n hx hb dX11_tried_76 rfl (lv_at hl 0 rfl) ?_
  refine gR X hI fdX11_41 (la_0 hn) rf11_6 dX11_tried_77 ?_
  refine gR X hI fdX11_166 (la_53 hn) rf0_5 dX11_tried_80 ?_
  obtain ⟨q14, h15, hm⟩ := g_b hm
  refine backI X hI (runS X hI (ctX11_sumOf N 59 (ly_self (la_59 hn)) hn _ _ h15 _) msX11_222 ⟨rfl, rfl⟩ ⟨Nat.le_of_ble_eq_true rfl, Nat.le_of_ble_eq_true rfl⟩ rfl hl.1 rfl (Nat.le_of_ble_eq_true rfl) dX11_tried_83) (fun H locs hI => ?_)
  exact rI X hI hr (g_p hm).1 (g_p hm).2 dX11_tried_86
def fX11_tried (N : Nat) (x1 : Int32) (x2 : Int32) (x3 : Int32) (m : Mem) : Option (Int32 × Mem) := if x1 < 0 then (some ((-1 : Int32), m)) else (if (4 : Int32) < x1 then (some ((-1 : Int32), m)) else (if x3 < 0 then (some ((-1 : Int32), m)) else (if x3 ≤ (200 : Int32) then (if x1 = (2 : Int32) then (if lay (m.2.2 3) = (0, 6) then ((fX6_hasKnight (m.2.2 3) x2 m).bind (fun q17 => if q17 = 0 then (some ((-1 : Int32), m)) else (fX11_tried_47 N x1 x2 x3 m))) else none) else (if x2 = 0 then (fX11_tried_47 N x1 x2 x3 m) else (some ((-1 : Int32), m)))) else (some ((-1 : Int32), m)))))
set_option maxHeartbeats 4000000 in
set_option maxRecDepth 100000 in
theorem ctX11_tried {l : Launch} {D : va_G} {ca : Nat → ClassId} {ad : Nat → Nat} (N : Nat) (x1 : Int32) (x2 : Int32) (x3 : Int32)  (hn : HNc ca) (m : Mem) (fin : (Int32 × Mem)) (hm : fX11_tried N x1 x2 x3 m = some fin) : CI l D ca ad yX11_tried cwX11_tried rmX11_tried [.ref (ad 0), .int x1, .int x2, .int x3] m fin.1 fin.2 := by
  refine start (by decide) (Nat.le_of_ble_eq_true rfl) ?_
  intro p e s mm args below meth c H locs ls X hI hr hl
  have X : CX p s mm args meth c cX11_tried 4 RX11 D ca ad (WA ca ad s.heap.size) := X
  have hx := X.1
  have hb := X.2.1
  have hl : lv_has ls 4 [(0, .ref (ad 0)), (1, .int x1), (2, .int x2), (3, .int x3)] := hl
  have hm : (if x1 < 0 then (some ((-1 : Int32), m)) else (if (4 : Int32) < x1 then (some ((-1 : Int32), m)) else (if x3 < 0 then (some ((-1 : Int32), m)) else (if x3 ≤ (200 : Int32) then (if x1 = (2 : Int32) then (if lay (m.2.2 3) = (0, 6) then ((fX6_hasKnight (m.2.2 3) x2 m).bind (fun q17 => if q17 = 0 then (some ((-1 : Int32), m)) else (fX11_tried_47 N x1 x2 x3 m))) else none) else (if x2 = 0 then (fX11_tried_47 N x1 x2 x3 m) else (some ((-1 : Int32), m)))) else (some ((-1 : Int32), m)))))) = some fin := hm
  refine lv_iload_n hx hb dX11_tried_0 rfl (lv_at hl 1 rfl) ?_
  refine lv_if_lt (tgt := 20) hx hb dX11_tried_1 (by decide) (fun c1 => ?_) (fun c1 => ?_)
  · have hm := g_t c1 hm
    refine lv_iconst (v := (-1 : Int32)) hx hb dX11_tried_20 (by decide) ?_
    exact rI X hI hr (g_p hm).1 (g_p hm).2 dX11_tried_21
  · have hm := g_f c1 hm
    refine lv_iload_n hx hb dX11_tried_4 rfl (lv_at hl 1 rfl) ?_
    refine lv_iconst (v := (4 : Int32)) hx hb dX11_tried_5 (by decide) ?_
    refine lv_icmp_gt (tgt := 20) hx hb dX11_tried_6 (by decide) (fun c2 => ?_) (fun c2 => ?_)
    · have hm := g_t c2 hm
      refine lv_iconst (v := (-1 : Int32)) hx hb dX11_tried_20 (by decide) ?_
      exact rI X hI hr (g_p hm).1 (g_p hm).2 dX11_tried_21
    · have hm := g_f c2 hm
      refine lv_iload_n hx hb dX11_tried_9 rfl (lv_at hl 3 rfl) ?_
      refine lv_if_lt (tgt := 20) hx hb dX11_tried_10 (by decide) (fun c3 => ?_) (fun c3 => ?_)
      · have hm := g_t c3 hm
        refine lv_iconst (v := (-1 : Int32)) hx hb dX11_tried_20 (by decide) ?_
        exact rI X hI hr (g_p hm).1 (g_p hm).2 dX11_tried_21
      · have hm := g_f c3 hm
        refine lv_iload_n hx hb dX11_tried_13 rfl (lv_at hl 3 rfl) ?_
        refine lv_sipush (v := (200 : Int32)) hx hb dX11_tried_14 (by decide) ?_
        refine lv_icmp_le (tgt := 22) hx hb dX11_tried_17 (by decide) (fun c4 => ?_) (fun c4 => ?_)
        · have hm := g_t c4 hm
          refine lv_iload_n hx hb dX11_tried_22 rfl (lv_at hl 1 rfl) ?_
          refine lv_iconst (v := (2 : Int32)) hx hb dX11_tried_23 (by decide) ?_
          refine lv_icmp_ne (tgt := 41) hx hb dX11_tried_24 (by decide) (fun c5 => ?_) (fun c5 => ?_)
          · have hm := g_f c5 hm
            refine lv_iload_n hx hb dX11_tried_41 rfl (lv_at hl 2 rfl) ?_
            refine lv_if_eq (tgt := 47) hx hb dX11_tried_42 (by decide) (fun c6 => ?_) (fun c6 => ?_)
            · have hm := g_t c6 hm
              exact tX11_tried_47 N hn X hr fin  x1 x2 x3 m H locs ls hI (lv_sub hl [0, 1, 2, 3] rfl) hm
            · have hm := g_f c6 hm
              refine lv_iconst (v := (-1 : Int32)) hx hb dX11_tried_45 (by decide) ?_
              exact rI X hI hr (g_p hm).1 (g_p hm).2 dX11_tried_46
          · have hm := g_t c5 hm
            refine lv_aload_n hx hb dX11_tried_27 rfl (lv_at hl 0 rfl) ?_
            obtain ⟨g16, hm⟩ := g_is hm
            refine gR X hI fdX11_27 (la_0 hn) rf11_3 dX11_tried_28 ?_
            refine lv_iload_n hx hb dX11_tried_31 rfl (lv_at hl 2 rfl) ?_
            obtain ⟨q17, h18, hm⟩ := g_b hm
            refine backI X hI (runV X hI (ctX6_hasKnight (m.2.2 3) x2 (lyO hn g16) hn _ _ h18 _) mdX11_154 (lyO hn g16) rfl ⟨rfl, rfl⟩ ⟨Nat.le_of_ble_eq_true rfl, Nat.le_of_ble_eq_true rfl⟩ rfl hl.1 rfl (Nat.le_of_ble_eq_true rfl) dX11_tried_32) (fun H locs hI => ?_)
            refine lv_if_ne (tgt := 47) hx hb dX11_tried_35 (by decide) (fun c19 => ?_) (fun c19 => ?_)
            · have hm := g_f c19 hm
              exact tX11_tried_47 N hn X hr fin  x1 x2 x3 m H locs ls hI (lv_sub hl [0, 1, 2, 3] rfl) hm
            · have hm := g_t c19 hm
              refine lv_goto (tgt := 45) hx hb dX11_tried_38 (by decide) ?_
              refine lv_iconst (v := (-1 : Int32)) hx hb dX11_tried_45 (by decide) ?_
              exact rI X hI hr (g_p hm).1 (g_p hm).2 dX11_tried_46
        · have hm := g_f c4 hm
          refine lv_iconst (v := (-1 : Int32)) hx hb dX11_tried_20 (by decide) ?_
          exact rI X hI hr (g_p hm).1 (g_p hm).2 dX11_tried_21
abbrev rmX11_undo : Room := { frames := 4, cells := 0, slots := 0, locals := 87 }
abbrev cwX11_undo : Cond := .code yX11_undo cX11_undo 1 (some .int)
theorem cmX11_undo : cwX11_undo ∈ BIG := (tb5 (List.mem_of_getElem? (i := 143) rfl) rfl)
def fX11_undo (N : Nat)  (m : Mem) : Option (Int32 × Mem) := (fX7_restore N 43 m).bind (fun q1 => if q1.1 = 0 then (some ((-1 : Int32), q1.2)) else (some ((q1.2.1 74 1), q1.2)))
set_option maxHeartbeats 4000000 in
set_option maxRecDepth 100000 in
theorem ctX11_undo {l : Launch} {D : va_G} {ca : Nat → ClassId} {ad : Nat → Nat} (N : Nat)   (hn : HNc ca) (m : Mem) (fin : (Int32 × Mem)) (hm : fX11_undo N m = some fin) : CI l D ca ad yX11_undo cwX11_undo rmX11_undo [.ref (ad 0)] m fin.1 fin.2 := by
  refine start (by decide) (Nat.le_of_ble_eq_true rfl) ?_
  intro p e s mm args below meth c H locs ls X hI hr hl
  have X : CX p s mm args meth c cX11_undo 1 RX11 D ca ad (WA ca ad s.heap.size) := X
  have hx := X.1
  have hb := X.2.1
  have hl : lv_has ls 1 [(0, .ref (ad 0))] := hl
  have hm : ((fX7_restore N 43 m).bind (fun q1 => if q1.1 = 0 then (some ((-1 : Int32), q1.2)) else (some ((q1.2.1 74 1), q1.2)))) = some fin := hm
  refine lv_aload_n hx hb dX11_undo_0 rfl (lv_at hl 0 rfl) ?_
  refine gR X hI fdX11_57 (la_0 hn) rf11_10 dX11_undo_1 ?_
  refine lv_aload_n hx hb dX11_undo_4 rfl (lv_at hl 0 rfl) ?_
  refine gR X hI fdX11_37 (la_0 hn) rf11_5 dX11_undo_5 ?_
  obtain ⟨q1, h2, hm⟩ := g_b hm
  refine backI X hI (runV X hI (ctX7_restore N 43 (la_43 hn) hn _ _ h2 _) mdX11_334 (la_74 hn) rfl ⟨rfl, rfl⟩ ⟨Nat.le_of_ble_eq_true rfl, Nat.le_of_ble_eq_true rfl⟩ rfl hl.1 rfl (Nat.le_of_ble_eq_true rfl) dX11_undo_8) (fun H locs hI => ?_)
  refine lv_if_eq (tgt := 24) hx hb dX11_undo_11 (by decide) (fun c3 => ?_) (fun c3 => ?_)
  · have hm := g_t c3 hm
    refine lv_iconst (v := (-1 : Int32)) hx hb dX11_undo_24 (by decide) ?_
    exact rI X hI hr (g_p hm).1 (g_p hm).2 dX11_undo_25
  · have hm := g_f c3 hm
    refine lv_aload_n hx hb dX11_undo_14 rfl (lv_at hl 0 rfl) ?_
    refine gR X hI fdX11_57 (la_0 hn) rf11_10 dX11_undo_15 ?_
    refine gI X hI fdX11_338 (la_74 hn) dX11_undo_18 ?_
    refine lv_goto (tgt := 25) hx hb dX11_undo_21 (by decide) ?_
    exact rI X hI hr (g_p hm).1 (g_p hm).2 dX11_undo_25
abbrev rmX11_keep : Room := { frames := 2, cells := 0, slots := 0, locals := 49 }
abbrev cwX11_keep : Cond := .code yX11_keep cX11_keep 1 (some .int)
theorem cmX11_keep : cwX11_keep ∈ BIG := (tb5 (List.mem_of_getElem? (i := 153) rfl) rfl)
def fX11_keep   (m : Mem) : Option (Int32 × Mem) := (fX0_become 63 43 m).bind (fun q1 => some (((mI q1 0 8 (1 : Int32)).1 43 9), (mI q1 0 8 (1 : Int32))))
set_option maxHeartbeats 4000000 in
set_option maxRecDepth 100000 in
theorem ctX11_keep {l : Launch} {D : va_G} {ca : Nat → ClassId} {ad : Nat → Nat}    (hn : HNc ca) (m : Mem) (fin : (Int32 × Mem)) (hm : fX11_keep  m = some fin) : CI l D ca ad yX11_keep cwX11_keep rmX11_keep [.ref (ad 0)] m fin.1 fin.2 := by
  refine start (by decide) (Nat.le_of_ble_eq_true rfl) ?_
  intro p e s mm args below meth c H locs ls X hI hr hl
  have X : CX p s mm args meth c cX11_keep 1 RX11 D ca ad (WA ca ad s.heap.size) := X
  have hx := X.1
  have hb := X.2.1
  have hl : lv_has ls 1 [(0, .ref (ad 0))] := hl
  have hm : ((fX0_become 63 43 m).bind (fun q1 => some (((mI q1 0 8 (1 : Int32)).1 43 9), (mI q1 0 8 (1 : Int32))))) = some fin := hm
  refine lv_aload_n hx hb dX11_keep_0 rfl (lv_at hl 0 rfl) ?_
  refine gR X hI fdX11_44 (la_0 hn) rf11_7 dX11_keep_1 ?_
  refine lv_aload_n hx hb dX11_keep_4 rfl (lv_at hl 0 rfl) ?_
  refine gR X hI fdX11_37 (la_0 hn) rf11_5 dX11_keep_5 ?_
  obtain ⟨q1, h2, hm⟩ := g_b hm
  refine backV X hI (runV X hI (ctX0_become 63 43 (la_63 hn) (la_43 hn) hn _ _ h2 _) mdX11_226 (la_63 hn) rfl ⟨rfl, rfl⟩ ⟨Nat.le_of_ble_eq_true rfl, Nat.le_of_ble_eq_true rfl⟩ rfl hl.1 rfl (Nat.le_of_ble_eq_true rfl) dX11_keep_8) (fun H locs hI => ?_)
  refine lv_aload_n hx hb dX11_keep_11 rfl (lv_at hl 0 rfl) ?_
  refine lv_iconst (v := (1 : Int32)) hx hb dX11_keep_12 (by decide) ?_
  refine pZ X hI fpX11_102 (la_0 hn) (by decide) dX11_keep_13 (fun H locs hI => ?_)
  refine lv_aload_n hx hb dX11_keep_16 rfl (lv_at hl 0 rfl) ?_
  refine gR X hI fdX11_37 (la_0 hn) rf11_5 dX11_keep_17 ?_
  refine gI X hI fdX11_209 (la_43 hn) dX11_keep_20 ?_
  exact rI X hI hr (g_p hm).1 (g_p hm).2 dX11_keep_23
abbrev rmX11_back : Room := { frames := 2, cells := 0, slots := 0, locals := 49 }
abbrev cwX11_back : Cond := .code yX11_back cX11_back 1 (some .int)
theorem cmX11_back : cwX11_back ∈ BIG := (tb5 (List.mem_of_getElem? (i := 157) rfl) rfl)
def fX11_back   (m : Mem) : Option (Int32 × Mem) := if (m.1 0 8) = 0 then (some ((-1 : Int32), m)) else ((fX0_become 43 63 m).bind (fun q2 => (fX7_forget  q2).bind (fun q4 => some ((q4.1 43 9), q4))))
set_option maxHeartbeats 4000000 in
set_option maxRecDepth 100000 in
theorem ctX11_back {l : Launch} {D : va_G} {ca : Nat → ClassId} {ad : Nat → Nat}    (hn : HNc ca) (m : Mem) (fin : (Int32 × Mem)) (hm : fX11_back  m = some fin) : CI l D ca ad yX11_back cwX11_back rmX11_back [.ref (ad 0)] m fin.1 fin.2 := by
  refine start (by decide) (Nat.le_of_ble_eq_true rfl) ?_
  intro p e s mm args below meth c H locs ls X hI hr hl
  have X : CX p s mm args meth c cX11_back 1 RX11 D ca ad (WA ca ad s.heap.size) := X
  have hx := X.1
  have hb := X.2.1
  have hl : lv_has ls 1 [(0, .ref (ad 0))] := hl
  have hm : (if (m.1 0 8) = 0 then (some ((-1 : Int32), m)) else ((fX0_become 43 63 m).bind (fun q2 => (fX7_forget  q2).bind (fun q4 => some ((q4.1 43 9), q4))))) = some fin := hm
  refine lv_aload_n hx hb dX11_back_0 rfl (lv_at hl 0 rfl) ?_
  refine gI X hI fdX11_102 (la_0 hn) dX11_back_1 ?_
  refine lv_if_ne (tgt := 9) hx hb dX11_back_4 (by decide) (fun c1 => ?_) (fun c1 => ?_)
  · have hm := g_f c1 hm
    refine lv_aload_n hx hb dX11_back_9 rfl (lv_at hl 0 rfl) ?_
    refine gR X hI fdX11_37 (la_0 hn) rf11_5 dX11_back_10 ?_
    refine lv_aload_n hx hb dX11_back_13 rfl (lv_at hl 0 rfl) ?_
    refine gR X hI fdX11_44 (la_0 hn) rf11_7 dX11_back_14 ?_
    obtain ⟨q2, h3, hm⟩ := g_b hm
    refine backV X hI (runV X hI (ctX0_become 43 63 (la_43 hn) (la_63 hn) hn _ _ h3 _) mdX11_226 (la_43 hn) rfl ⟨rfl, rfl⟩ ⟨Nat.le_of_ble_eq_true rfl, Nat.le_of_ble_eq_true rfl⟩ rfl hl.1 rfl (Nat.le_of_ble_eq_true rfl) dX11_back_17) (fun H locs hI => ?_)
    refine lv_aload_n hx hb dX11_back_20 rfl (lv_at hl 0 rfl) ?_
    refine gR X hI fdX11_57 (la_0 hn) rf11_10 dX11_back_21 ?_
    obtain ⟨q4, h5, hm⟩ := g_b hm
    refine backV X hI (runV X hI (ctX7_forget   hn _ _ h5 _) mdX11_101 (la_74 hn) rfl ⟨rfl, rfl⟩ ⟨Nat.le_of_ble_eq_true rfl, Nat.le_of_ble_eq_true rfl⟩ rfl hl.1 rfl (Nat.le_of_ble_eq_true rfl) dX11_back_24) (fun H locs hI => ?_)
    refine lv_aload_n hx hb dX11_back_27 rfl (lv_at hl 0 rfl) ?_
    refine gR X hI fdX11_37 (la_0 hn) rf11_5 dX11_back_28 ?_
    refine gI X hI fdX11_209 (la_43 hn) dX11_back_31 ?_
    exact rI X hI hr (g_p hm).1 (g_p hm).2 dX11_back_34
  · have hm := g_t c1 hm
    refine lv_iconst (v := (-1 : Int32)) hx hb dX11_back_7 (by decide) ?_
    exact rI X hI hr (g_p hm).1 (g_p hm).2 dX11_back_8
abbrev rmX11_count : Room := { frames := 1, cells := 0, slots := 0, locals := 22 }
abbrev cwX11_count : Cond := .code yX11_count cX11_count 2 (some .int)
theorem cmX11_count : cwX11_count ∈ BIG := (tb5 (List.mem_of_getElem? (i := 161) rfl) rfl)
def fX11_count (N : Nat) (x1 : Int32) (m : Mem) : Option Int32 := if x1 = (0 : Int32) then (if lay (m.2.2 3) = (0, 6) then (some (m.1 ((m.2.2 3) + 1) 2)) else none) else (if x1 = (1 : Int32) then (if lay (m.2.2 3) = (0, 6) then (some (m.1 ((m.2.2 3) + 3) 2)) else none) else (if x1 = (2 : Int32) then (if lay (m.2.2 3) = (0, 6) then (some (m.1 ((m.2.2 3) + 5) 2)) else none) else (if x1 = (3 : Int32) then (if lay (m.2.2 3) = (0, 6) then (some (m.1 ((m.2.2 3) + 7) 2)) else none) else (if x1 = (4 : Int32) then (if lay (m.2.2 3) = (0, 6) then (some (m.1 ((m.2.2 3) + 9) 2)) else none) else (if x1 = (5 : Int32) then (if lay (m.2.2 3) = (0, 6) then (some (m.1 ((m.2.2 3) + 11) 6)) else none) else (if x1 = (6 : Int32) then (some (m.1 43 9)) else (if x1 = (7 : Int32) then ((fX11_sumOf N 44 m).bind (fun q15 => some q15)) else (if x1 = (8 : Int32) then ((fX0_bathers N 43 m).bind (fun q18 => some q18)) else (if x1 = (9 : Int32) then ((fX11_sumOf N 49 m).bind (fun q21 => some q21)) else (if x1 = (10 : Int32) then ((fX11_sumOf N 52 m).bind (fun q24 => some q24)) else (if x1 = (11 : Int32) then (some (m.1 43 10)) else (if x1 = (12 : Int32) then (some (m.1 76 6)) else (if x1 = (13 : Int32) then ((fX1_countKnown  m).bind (fun q29 => some q29)) else (if x1 = (14 : Int32) then (some (m.1 74 1)) else (some (-1 : Int32))))))))))))))))
set_option maxHeartbeats 4000000 in
set_option maxRecDepth 100000 in
theorem ctX11_count {l : Launch} {D : va_G} {ca : Nat → ClassId} {ad : Nat → Nat} (N : Nat) (x1 : Int32)  (hn : HNc ca) (m : Mem) (fin : Int32) (hm : fX11_count N x1 m = some fin) : CI l D ca ad yX11_count cwX11_count rmX11_count [.ref (ad 0), .int x1] m fin m := by
  refine start (by decide) (Nat.le_of_ble_eq_true rfl) ?_
  intro p e s mm args below meth c H locs ls X hI hr hl
  have X : CX p s mm args meth c cX11_count 2 RX11 D ca ad (WA ca ad s.heap.size) := X
  have hx := X.1
  have hb := X.2.1
  have hl : lv_has ls 2 [(0, .ref (ad 0)), (1, .int x1)] := hl
  have hm : (if x1 = (0 : Int32) then (if lay (m.2.2 3) = (0, 6) then (some (m.1 ((m.2.2 3) + 1) 2)) else none) else (if x1 = (1 : Int32) then (if lay (m.2.2 3) = (0, 6) then (some (m.1 ((m.2.2 3) + 3) 2)) else none) else (if x1 = (2 : Int32) then (if lay (m.2.2 3) = (0, 6) then (some (m.1 ((m.2.2 3) + 5) 2)) else none) else (if x1 = (3 : Int32) then (if lay (m.2.2 3) = (0, 6) then (some (m.1 ((m.2.2 3) + 7) 2)) else none) else (if x1 = (4 : Int32) then (if lay (m.2.2 3) = (0, 6) then (some (m.1 ((m.2.2 3) + 9) 2)) else none) else (if x1 = (5 : Int32) then (if lay (m.2.2 3) = (0, 6) then (some (m.1 ((m.2.2 3) + 11) 6)) else none) else (if x1 = (6 : Int32) then (some (m.1 43 9)) else (if x1 = (7 : Int32) then ((fX11_sumOf N 44 m).bind (fun q15 => some q15)) else (if x1 = (8 : Int32) then ((fX0_bathers N 43 m).bind (fun q18 => some q18)) else (if x1 = (9 : Int32) then ((fX11_sumOf N 49 m).bind (fun q21 => some q21)) else (if x1 = (10 : Int32) then ((fX11_sumOf N 52 m).bind (fun q24 => some q24)) else (if x1 = (11 : Int32) then (some (m.1 43 10)) else (if x1 = (12 : Int32) then (some (m.1 76 6)) else (if x1 = (13 : Int32) then ((fX1_countKnown  m).bind (fun q29 => some q29)) else (if x1 = (14 : Int32) then (some (m.1 74 1)) else (some (-1 : Int32))))))))))))))))) = some fin := hm
  have hpm : m = m := rfl
  refine lv_iload_n hx hb dX11_count_0 rfl (lv_at hl 1 rfl) ?_
  by_cases c1 : x1 = (0 : Int32)
  · have hm := g_t c1 hm
    refine lv_tableIn (tgt := 76) hx hb dX11_count_1 (by rw [c1]; decide) (by rw [c1]; decide) (off := 75) (by rw [c1]; decide) (by decide) ?_
    refine lv_aload_n hx hb dX11_count_76 rfl (lv_at hl 0 rfl) ?_
    obtain ⟨g2, hm⟩ := g_is hm
    refine gR X hI fdX11_27 (la_0 hn) rf11_3 dX11_count_77 ?_
    refine gR X hI fdX11_115 (lyO hn g2) rf6_0 dX11_count_80 ?_
    refine gI X hI fdX11_239 (lf6_0 hn (lyO hn g2)) dX11_count_83 ?_
    exact rI X hI hr (g_1 hm) hpm dX11_count_86
  · have hm := g_f c1 hm
    by_cases c3 : x1 = (1 : Int32)
    · have hm := g_t c3 hm
      refine lv_tableIn (tgt := 87) hx hb dX11_count_1 (by rw [c3]; decide) (by rw [c3]; decide) (off := 86) (by rw [c3]; decide) (by decide) ?_
      refine lv_aload_n hx hb dX11_count_87 rfl (lv_at hl 0 rfl) ?_
      obtain ⟨g4, hm⟩ := g_is hm
      refine gR X hI fdX11_27 (la_0 hn) rf11_3 dX11_count_88 ?_
      refine gR X hI fdX11_125 (lyO hn g4) rf6_1 dX11_count_91 ?_
      refine gI X hI fdX11_239 (lf6_1 hn (lyO hn g4)) dX11_count_94 ?_
      exact rI X hI hr (g_1 hm) hpm dX11_count_97
    · have hm := g_f c3 hm
      by_cases c5 : x1 = (2 : Int32)
      · have hm := g_t c5 hm
        refine lv_tableIn (tgt := 98) hx hb dX11_count_1 (by rw [c5]; decide) (by rw [c5]; decide) (off := 97) (by rw [c5]; decide) (by decide) ?_
        refine lv_aload_n hx hb dX11_count_98 rfl (lv_at hl 0 rfl) ?_
        obtain ⟨g6, hm⟩ := g_is hm
        refine gR X hI fdX11_27 (la_0 hn) rf11_3 dX11_count_99 ?_
        refine gR X hI fdX11_339 (lyO hn g6) rf6_2 dX11_count_102 ?_
        refine gI X hI fdX11_239 (lf6_2 hn (lyO hn g6)) dX11_count_105 ?_
        exact rI X hI hr (g_1 hm) hpm dX11_count_108
      · have hm := g_f c5 hm
        by_cases c7 : x1 = (3 : Int32)
        · have hm := g_t c7 hm
          refine lv_tableIn (tgt := 109) hx hb dX11_count_1 (by rw [c7]; decide) (by rw [c7]; decide) (off := 108) (by rw [c7]; decide) (by decide) ?_
          refine lv_aload_n hx hb dX11_count_109 rfl (lv_at hl 0 rfl) ?_
          obtain ⟨g8, hm⟩ := g_is hm
          refine gR X hI fdX11_27 (la_0 hn) rf11_3 dX11_count_110 ?_
          refine gR X hI fdX11_342 (lyO hn g8) rf6_3 dX11_count_113 ?_
          refine gI X hI fdX11_239 (lf6_3 hn (lyO hn g8)) dX11_count_116 ?_
          exact rI X hI hr (g_1 hm) hpm dX11_count_119
        · have hm := g_f c7 hm
          by_cases c9 : x1 = (4 : Int32)
          · have hm := g_t c9 hm
            refine lv_tableIn (tgt := 120) hx hb dX11_count_1 (by rw [c9]; decide) (by rw [c9]; decide) (off := 119) (by rw [c9]; decide) (by decide) ?_
            refine lv_aload_n hx hb dX11_count_120 rfl (lv_at hl 0 rfl) ?_
            obtain ⟨g10, hm⟩ := g_is hm
            refine gR X hI fdX11_27 (la_0 hn) rf11_3 dX11_count_121 ?_
            refine gR X hI fdX11_345 (lyO hn g10) rf6_4 dX11_count_124 ?_
            refine gI X hI fdX11_239 (lf6_4 hn (lyO hn g10)) dX11_count_127 ?_
            exact rI X hI hr (g_1 hm) hpm dX11_count_130
          · have hm := g_f c9 hm
            by_cases c11 : x1 = (5 : Int32)
            · have hm := g_t c11 hm
              refine lv_tableIn (tgt := 131) hx hb dX11_count_1 (by rw [c11]; decide) (by rw [c11]; decide) (off := 130) (by rw [c11]; decide) (by decide) ?_
              refine lv_aload_n hx hb dX11_count_131 rfl (lv_at hl 0 rfl) ?_
              obtain ⟨g12, hm⟩ := g_is hm
              refine gR X hI fdX11_27 (la_0 hn) rf11_3 dX11_count_132 ?_
              refine gR X hI fdX11_348 (lyO hn g12) rf6_5 dX11_count_135 ?_
              refine gI X hI fdX11_352 (lf6_5 hn (lyO hn g12)) dX11_count_138 ?_
              exact rI X hI hr (g_1 hm) hpm dX11_count_141
            · have hm := g_f c11 hm
              by_cases c13 : x1 = (6 : Int32)
              · have hm := g_t c13 hm
                refine lv_tableIn (tgt := 142) hx hb dX11_count_1 (by rw [c13]; decide) (by rw [c13]; decide) (off := 141) (by rw [c13]; decide) (by decide) ?_
                refine lv_aload_n hx hb dX11_count_142 rfl (lv_at hl 0 rfl) ?_
                refine gR X hI fdX11_37 (la_0 hn) rf11_5 dX11_count_143 ?_
                refine gI X hI fdX11_209 (la_43 hn) dX11_count_146 ?_
                exact rI X hI hr (g_1 hm) hpm dX11_count_149
              · have hm := g_f c13 hm
                by_cases c14 : x1 = (7 : Int32)
                · have hm := g_t c14 hm
                  refine lv_tableIn (tgt := 150) hx hb dX11_count_1 (by rw [c14]; decide) (by rw [c14]; decide) (off := 149) (by rw [c14]; decide) (by decide) ?_
                  refine lv_aload_n hx hb dX11_count_150 rfl (lv_at hl 0 rfl) ?_
                  refine gR X hI fdX11_37 (la_0 hn) rf11_5 dX11_count_151 ?_
                  refine gR X hI fdX11_139 (la_43 hn) rf0_0 dX11_count_154 ?_
                  obtain ⟨q15, h16, hm⟩ := g_b hm
                  refine backI X hI (runS X hI (ctX11_sumOf N 44 (ly_self (la_44 hn)) hn _ _ h16 _) msX11_222 ⟨rfl, rfl⟩ ⟨Nat.le_of_ble_eq_true rfl, Nat.le_of_ble_eq_true rfl⟩ rfl hl.1 rfl (Nat.le_of_ble_eq_true rfl) dX11_count_157) (fun H locs hI => ?_)
                  exact rI X hI hr (g_1 hm) hpm dX11_count_160
                · have hm := g_f c14 hm
                  by_cases c17 : x1 = (8 : Int32)
                  · have hm := g_t c17 hm
                    refine lv_tableIn (tgt := 161) hx hb dX11_count_1 (by rw [c17]; decide) (by rw [c17]; decide) (off := 160) (by rw [c17]; decide) (by decide) ?_
                    refine lv_aload_n hx hb dX11_count_161 rfl (lv_at hl 0 rfl) ?_
                    refine gR X hI fdX11_37 (la_0 hn) rf11_5 dX11_count_162 ?_
                    obtain ⟨q18, h19, hm⟩ := g_b hm
                    refine backI X hI (runV X hI (ctX0_bathers N 43 (la_43 hn) hn _ _ h19 _) mdX11_357 (la_43 hn) rfl ⟨rfl, rfl⟩ ⟨Nat.le_of_ble_eq_true rfl, Nat.le_of_ble_eq_true rfl⟩ rfl hl.1 rfl (Nat.le_of_ble_eq_true rfl) dX11_count_165) (fun H locs hI => ?_)
                    exact rI X hI hr (g_1 hm) hpm dX11_count_168
                  · have hm := g_f c17 hm
                    by_cases c20 : x1 = (9 : Int32)
                    · have hm := g_t c20 hm
                      refine lv_tableIn (tgt := 169) hx hb dX11_count_1 (by rw [c20]; decide) (by rw [c20]; decide) (off := 168) (by rw [c20]; decide) (by decide) ?_
                      refine lv_aload_n hx hb dX11_count_169 rfl (lv_at hl 0 rfl) ?_
                      refine gR X hI fdX11_37 (la_0 hn) rf11_5 dX11_count_170 ?_
                      refine gR X hI fdX11_166 (la_43 hn) rf0_5 dX11_count_173 ?_
                      obtain ⟨q21, h22, hm⟩ := g_b hm
                      refine backI X hI (runS X hI (ctX11_sumOf N 49 (ly_self (la_49 hn)) hn _ _ h22 _) msX11_222 ⟨rfl, rfl⟩ ⟨Nat.le_of_ble_eq_true rfl, Nat.le_of_ble_eq_true rfl⟩ rfl hl.1 rfl (Nat.le_of_ble_eq_true rfl) dX11_count_176) (fun H locs hI => ?_)
                      exact rI X hI hr (g_1 hm) hpm dX11_count_179
                    · have hm := g_f c20 hm
                      by_cases c23 : x1 = (10 : Int32)
                      · have hm := g_t c23 hm
                        refine lv_tableIn (tgt := 180) hx hb dX11_count_1 (by rw [c23]; decide) (by rw [c23]; decide) (off := 179) (by rw [c23]; decide) (by decide) ?_
                        refine lv_aload_n hx hb dX11_count_180 rfl (lv_at hl 0 rfl) ?_
                        refine gR X hI fdX11_37 (la_0 hn) rf11_5 dX11_count_181 ?_
                        refine gR X hI fdX11_175 (la_43 hn) rf0_8 dX11_count_184 ?_
                        obtain ⟨q24, h25, hm⟩ := g_b hm
                        refine backI X hI (runS X hI (ctX11_sumOf N 52 (ly_self (la_52 hn)) hn _ _ h25 _) msX11_222 ⟨rfl, rfl⟩ ⟨Nat.le_of_ble_eq_true rfl, Nat.le_of_ble_eq_true rfl⟩ rfl hl.1 rfl (Nat.le_of_ble_eq_true rfl) dX11_count_187) (fun H locs hI => ?_)
                        exact rI X hI hr (g_1 hm) hpm dX11_count_190
                      · have hm := g_f c23 hm
                        by_cases c26 : x1 = (11 : Int32)
                        · have hm := g_t c26 hm
                          refine lv_tableIn (tgt := 191) hx hb dX11_count_1 (by rw [c26]; decide) (by rw [c26]; decide) (off := 190) (by rw [c26]; decide) (by decide) ?_
                          refine lv_aload_n hx hb dX11_count_191 rfl (lv_at hl 0 rfl) ?_
                          refine gR X hI fdX11_37 (la_0 hn) rf11_5 dX11_count_192 ?_
                          refine gI X hI fdX11_360 (la_43 hn) dX11_count_195 ?_
                          exact rI X hI hr (g_1 hm) hpm dX11_count_198
                        · have hm := g_f c26 hm
                          by_cases c27 : x1 = (12 : Int32)
                          · have hm := g_t c27 hm
                            refine lv_tableIn (tgt := 199) hx hb dX11_count_1 (by rw [c27]; decide) (by rw [c27]; decide) (off := 198) (by rw [c27]; decide) (by decide) ?_
                            refine lv_aload_n hx hb dX11_count_199 rfl (lv_at hl 0 rfl) ?_
                            refine gR X hI fdX11_64 (la_0 hn) rf11_11 dX11_count_200 ?_
                            refine gI X hI fdX11_303 (la_76 hn) dX11_count_203 ?_
                            exact rI X hI hr (g_1 hm) hpm dX11_count_206
                          · have hm := g_f c27 hm
                            by_cases c28 : x1 = (13 : Int32)
                            · have hm := g_t c28 hm
                              refine lv_tableIn (tgt := 207) hx hb dX11_count_1 (by rw [c28]; decide) (by rw [c28]; decide) (off := 206) (by rw [c28]; decide) (by decide) ?_
                              refine lv_aload_n hx hb dX11_count_207 rfl (lv_at hl 0 rfl) ?_
                              refine gR X hI fdX11_64 (la_0 hn) rf11_11 dX11_count_208 ?_
                              obtain ⟨q29, h30, hm⟩ := g_b hm
                              refine backI X hI (runV X hI (ctX1_countKnown   hn _ _ h30 _) mdX11_363 (la_76 hn) rfl ⟨rfl, rfl⟩ ⟨Nat.le_of_ble_eq_true rfl, Nat.le_of_ble_eq_true rfl⟩ rfl hl.1 rfl (Nat.le_of_ble_eq_true rfl) dX11_count_211) (fun H locs hI => ?_)
                              exact rI X hI hr (g_1 hm) hpm dX11_count_214
                            · have hm := g_f c28 hm
                              by_cases c31 : x1 = (14 : Int32)
                              · have hm := g_t c31 hm
                                refine lv_tableIn (tgt := 215) hx hb dX11_count_1 (by rw [c31]; decide) (by rw [c31]; decide) (off := 214) (by rw [c31]; decide) (by decide) ?_
                                refine lv_aload_n hx hb dX11_count_215 rfl (lv_at hl 0 rfl) ?_
                                refine gR X hI fdX11_57 (la_0 hn) rf11_10 dX11_count_216 ?_
                                refine gI X hI fdX11_338 (la_74 hn) dX11_count_219 ?_
                                exact rI X hI hr (g_1 hm) hpm dX11_count_222
                              · have hm := g_f c31 hm
                                have ec1 := lv_neT c1 (a := 0) (by decide)
                                have ec3 := lv_neT c3 (a := 1) (by decide)
                                have ec5 := lv_neT c5 (a := 2) (by decide)
                                have ec7 := lv_neT c7 (a := 3) (by decide)
                                have ec9 := lv_neT c9 (a := 4) (by decide)
                                have ec11 := lv_neT c11 (a := 5) (by decide)
                                have ec13 := lv_neT c13 (a := 6) (by decide)
                                have ec14 := lv_neT c14 (a := 7) (by decide)
                                have ec17 := lv_neT c17 (a := 8) (by decide)
                                have ec20 := lv_neT c20 (a := 9) (by decide)
                                have ec23 := lv_neT c23 (a := 10) (by decide)
                                have ec26 := lv_neT c26 (a := 11) (by decide)
                                have ec27 := lv_neT c27 (a := 12) (by decide)
                                have ec28 := lv_neT c28 (a := 13) (by decide)
                                have ec31 := lv_neT c31 (a := 14) (by decide)
                                refine lv_tableOut (tgt := 223) hx hb dX11_count_1 (by omega) (by decide) ?_
                                refine lv_iconst (v := (-1 : Int32)) hx hb dX11_count_223 (by decide) ?_
                                exact rI X hI hr (g_1 hm) hpm dX11_count_224
