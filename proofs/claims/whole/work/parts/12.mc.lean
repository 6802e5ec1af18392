abbrev rmX1_lastMinute : Room := { frames := 1, cells := 0, slots := 0, locals := 24 }
def fX1_lastMinute_4 (N : Nat) : Nat → Int32 → Int32 → Mem → Option Int32
  | 0, _, _, _ => none
  | n + 1, x1, x2, m => if (24 : Int32) ≤ x2 then (some x1) else (if x2 < 0 ∨ 24 ≤ x2.toNatClampNeg then none else (if (m.1 82 x2.toNatClampNeg) = 0 then (fX1_lastMinute_4 N n x1 (x2 + (1 : Int32)) m) else (if x2 < 0 ∨ 24 ≤ x2.toNatClampNeg then none else (fX1_lastMinute_4 N n (imax x1 (m.1 77 x2.toNatClampNeg)) (x2 + (1 : Int32)) m))))
set_option maxHeartbeats 4000000 in
set_option maxRecDepth 100000 in
theorem tX1_lastMinute_4 (N : Nat) {l : Launch} {D : va_G} {ca : Nat → ClassId} {ad : Nat → Nat} {p : Program} {e : Env} {s : State} {mm : MethodId} {args : Array Value} {below : List Frame} {meth : Method} {c : Code}  (hn : HNc ca) (X : CX p s mm args meth c cX1_lastMinute 3 RX1 D ca ad (WA ca ad s.heap.size)) (hr : meth.sig.returnType = (some .int)) (fin : Int32) (m0 : Mem)  : ∀ (n : Nat) (x1 : Int32) (x2 : Int32) (m : Mem) (H : Heap) (locs : List Loc) (ls : Array Slot), IW D ca ad (WA ca ad s.heap.size) s m H locs → lv_has ls 3 [(0, .ref (ad 76)), (1, .int x1), (2, .int x2)] → fX1_lastMinute_4 N n x1 x2 m = some fin → m = m0 → W p l e rmX1_lastMinute s mm args below meth c H locs 0 0 (MQ below (QI D ca ad s.heap.size fin m0) args s 0 0 (WA ca ad s.heap.size)) (F0 mm 4 ls []) := by
  have hx := X.1
  have hb := X.2.1
  intro n
  induction n with
  | zero => intro x1 x2 m H locs ls hI hl hm hpm
            exact absurd hm (by intro q; cases q)
  | succ n ih =>
    intro x1 x2 m H locs ls hI hl hm hpm
    have hm : (if (24 : Int32) ≤ x2 then (some x1) else (if x2 < 0 ∨ 24 ≤ x2.toNatClampNeg then none else (if (m.1 82 x2.toNatClampNeg) = 0 then (fX1_lastMinute_4 N n x1 (x2 + (1 : Int32)) m) else (if x2 < 0 ∨ 24 ≤ x2.toNatClampNeg then none else (fX1_lastMinute_4 N n (imax x1 (m.1 77 x2.toNatClampNeg)) (x2 + (1 : Int32)) m))))) = some fin := hm
    refine lv_iload_n hx hb dX1_lastMinute_4 rfl (lv_at hl 2 rfl) ?_
    refine lv_bipush (v := (24 : Int32)) hx hb dX1_lastMinute_5 (by decide) ?_
    refine lv_icmp_ge (tgt := 36) hx hb dX1_lastMinute_7 (by decide) (fun c1 => ?_) (fun c1 => ?_)
    · have hm := g_t c1 hm
      refine lv_iload_n hx hb dX1_lastMinute_36 rfl (lv_at hl 1 rfl) ?_
      exact rI X hI hr (g_1 hm) hpm dX1_lastMinute_37
    · have hm := g_f c1 hm
      refine lv_aload_n hx hb dX1_lastMinute_10 rfl (lv_at hl 0 rfl) ?_
      refine gR X hI fdX1_28 (la_76 hn) rf1_5 dX1_lastMinute_11 ?_
      refine lv_iload_n hx hb dX1_lastMinute_14 rfl (lv_at hl 2 rfl) ?_
      obtain ⟨g2, hm⟩ := g_no hm
      refine aZ X hI (la_82 hn) g2 dX1_lastMinute_15 ?_
      refine lv_if_eq (tgt := 30) hx hb dX1_lastMinute_16 (by decide) (fun c3 => ?_) (fun c3 => ?_)
      · have hm := g_t c3 hm
        refine lv_iinc (v := (x2 + (1 : Int32))) (lv' := [(2, .int (x2 + (1 : Int32))), (0, .ref (ad 76)), (1, .int x1)]) hx hb dX1_lastMinute_30 hl (k := 2) rfl rfl (by decide) rfl (fun ls hl => ?_)
        refine lv_goto (tgt := 4) hx hb dX1_lastMinute_33 (by decide) ?_
        exact ih x1 (x2 + (1 : Int32)) m H locs ls hI (lv_sub hl [1, 2, 0] rfl) hm hpm
      · have hm := g_f c3 hm
        refine lv_iload_n hx hb dX1_lastMinute_19 rfl (lv_at hl 1 rfl) ?_
        refine lv_aload_n hx hb dX1_lastMinute_20 rfl (lv_at hl 0 rfl) ?_
        refine gR X hI fdX1_9 (la_76 hn) rf1_0 dX1_lastMinute_21 ?_
        refine lv_iload_n hx hb dX1_lastMinute_24 rfl (lv_at hl 2 rfl) ?_
        obtain ⟨g4, hm⟩ := g_no hm
        refine aI X hI (la_77 hn) g4 dX1_lastMinute_25 ?_
        refine kMax X mpX1_46 hl.1 (Nat.le_of_ble_eq_true rfl) (Nat.le_of_ble_eq_true rfl) dX1_lastMinute_26 ?_
        refine lv_istore_n (lv' := [(1, .int (imax x1 (m.1 77 x2.toNatClampNeg))), (0, .ref (ad 76)), (2, .int x2)]) hx hb dX1_lastMinute_29 rfl hl (by decide) rfl (fun ls hl => ?_)
        refine lv_iinc (v := (x2 + (1 : Int32))) (lv' := [(2, .int (x2 + (1 : Int32))), (1, .int (imax x1 (m.1 77 x2.toNatClampNeg))), (0, .ref (ad 76))]) hx hb dX1_lastMinute_30 hl (k := 2) rfl rfl (by decide) rfl (fun ls hl => ?_)
        refine lv_goto (tgt := 4) hx hb dX1_lastMinute_33 (by decide) ?_
        exact ih (imax x1 (m.1 77 x2.toNatClampNeg)) (x2 + (1 : Int32)) m H locs ls hI (lv_sub hl [2, 1, 0] rfl) hm hpm
def fX1_lastMinute (N : Nat)  (m : Mem) : Option Int32 := fX1_lastMinute_4 N N (0 : Int32) (0 : Int32) m
set_option maxHeartbeats 4000000 in
set_option maxRecDepth 100000 in
theorem ctX1_lastMinute {l : Launch} {D : va_G} {ca : Nat → ClassId} {ad : Nat → Nat} (N : Nat)   (hn : HNc ca) (m : Mem) (fin : Int32) (hm : fX1_lastMinute N m = some fin) : CI l D ca ad yX1_lastMinute cwX1_lastMinute rmX1_lastMinute [.ref (ad 76)] m fin m := by
  refine start (by decide) (Nat.le_of_ble_eq_true rfl) ?_
  intro p e s mm args below meth c H locs ls X hI hr hl
  have X : CX p s mm args meth c cX1_lastMinute 3 RX1 D ca ad (WA ca ad s.heap.size) := X
  have hx := X.1
  have hb := X.2.1
  have hl : lv_has ls 3 [(0, .ref (ad 76))] := hl
  have hm : (fX1_lastMinute_4 N N (0 : Int32) (0 : Int32) m) = some fin := hm
  have hpm : m = m := rfl
  refine lv_iconst (v := (0 : Int32)) hx hb dX1_lastMinute_0 (by decide) ?_
  refine lv_istore_n (lv' := [(1, .int (0 : Int32)), (0, .ref (ad 76))]) hx hb dX1_lastMinute_1 rfl hl (by decide) rfl (fun ls hl => ?_)
  refine lv_iconst (v := (0 : Int32)) hx hb dX1_lastMinute_2 (by decide) ?_
  refine lv_istore_n (lv' := [(2, .int (0 : Int32)), (1, .int (0 : Int32)), (0, .ref (ad 76))]) hx hb dX1_lastMinute_3 rfl hl (by decide) rfl (fun ls hl => ?_)
  exact tX1_lastMinute_4 N hn X hr fin m  N (0 : Int32) (0 : Int32) m H locs ls hI (lv_sub hl [2, 1, 0] rfl) hm hpm
abbrev rmX1_agreeWith : Room := { frames := 0, cells := 0, slots := 0, locals := 0 }
def fX1_agreeWith_76 (N : Nat) (k2 : Nat → Int32 → Mem → Option Int32) (x1 : Nat) (x2 : Int32) (y0 : Int32) (m : Mem) : Option Int32 := if x2 < 0 ∨ 24 ≤ x2.toNatClampNeg then none else (if y0 = (m.1 80 x2.toNatClampNeg) then (k2 x1 (x2 + (1 : Int32)) m) else (some (0 : Int32)))
set_option maxHeartbeats 4000000 in
set_option maxRecDepth 100000 in
theorem tX1_agreeWith_76 (N : Nat) {l : Launch} {D : va_G} {ca : Nat → ClassId} {ad : Nat → Nat} {p : Program} {e : Env} {s : State} {mm : MethodId} {args : Array Value} {below : List Frame} {meth : Method} {c : Code} {k2 : Nat → Int32 → Mem → Option Int32} (hn : HNc ca) (X : CX p s mm args meth c cX1_agreeWith 4 RX1 D ca ad (WA ca ad s.heap.size)) (hr : meth.sig.returnType = (some .boolean)) (fin : Int32) (m0 : Mem) (hk2 : ∀ (x1 : Nat) (x2 : Int32) (m : Mem) (H : Heap) (locs : List Loc) (ls : Array Slot), ly ca x1 = (0, 0) → IW D ca ad (WA ca ad s.heap.size) s m H locs → lv_has ls 4 [(0, .ref (ad 76)), (1, .ref (ad x1)), (2, .int x2)] → k2 x1 x2 m = some fin → m = m0 → W p l e rmX1_agreeWith s mm args below meth c H locs 0 0 (MQ below (QI D ca ad s.heap.size fin m0) args s 0 0 (WA ca ad s.heap.size)) (F0 mm 2 ls [])) : ∀ (x1 : Nat) (x2 : Int32) (y0 : Int32) (m : Mem) (H : Heap) (locs : List Loc) (ls : Array Slot), ly ca x1 = (0, 0) → IW D ca ad (WA ca ad s.heap.size) s m H locs → lv_has ls 4 [(0, .ref (ad 76)), (1, .ref (ad x1)), (2, .int x2)] → fX1_agreeWith_76 N k2 x1 x2 y0 m = some fin → m = m0 → W p l e rmX1_agreeWith s mm args below meth c H locs 0 0 (MQ below (QI D ca ad s.heap.size fin m0) args s 0 0 (WA ca ad s.heap.size)) (F0 mm 76 ls [.int y0]) := by
  have hx := X.1
  have hb := X.2.1
  intro x1 x2 y0 m H locs ls hx1 hI hl hm hpm
  have hm : (if x2 < 0 ∨ 24 ≤ x2.toNatClampNeg then none else (if y0 = (m.1 80 x2.toNatClampNeg) then (k2 x1 (x2 + (1 : Int32)) m) else (some (0 : Int32)))) = some fin := hm
  refine lv_aload_n hx hb dX1_agreeWith_76 rfl (lv_at hl 0 rfl) ?_
  refine gR X hI fdX1_21 (la_76 hn) rf1_3 dX1_agreeWith_77 ?_
  refine lv_iload_n hx hb dX1_agreeWith_80 rfl (lv_at hl 2 rfl) ?_
  obtain ⟨g14, hm⟩ := g_no hm
  refine aZ X hI (la_80 hn) g14 dX1_agreeWith_81 ?_
  refine lv_icmp_eq (tgt := 87) hx hb dX1_agreeWith_82 (by decide) (fun c15 => ?_) (fun c15 => ?_)
  · have hm := g_t c15 hm
    refine lv_iinc (v := (x2 + (1 : Int32))) (lv' := [(2, .int (x2 + (1 : Int32))), (0, .ref (ad 76)), (1, .ref (ad x1))]) hx hb dX1_agreeWith_87 hl (k := 2) rfl rfl (by decide) rfl (fun ls hl => ?_)
    refine lv_goto (tgt := 2) hx hb dX1_agreeWith_90 (by decide) ?_
    exact hk2 x1 (x2 + (1 : Int32)) m H locs ls hx1 hI (lv_sub hl [1, 2, 0] rfl) hm hpm
  · have hm := g_f c15 hm
    refine lv_iconst (v := (0 : Int32)) hx hb dX1_agreeWith_85 (by decide) ?_
    exact rZ X hI hr (by decide) (g_1 hm) hpm dX1_agreeWith_86
def fX1_agreeWith_2 (N : Nat) : Nat → Nat → Int32 → Mem → Option Int32
  | 0, _, _, _ => none
  | n + 1, x1, x2, m => if (24 : Int32) ≤ x2 then (some (1 : Int32)) else (if x2 < 0 ∨ 24 ≤ x2.toNatClampNeg then none else (if x2 < 0 ∨ 24 ≤ x2.toNatClampNeg then none else (if (m.1 82 x2.toNatClampNeg) = 0 then (fX1_agreeWith_2 N n x1 (x2 + (1 : Int32)) m) else (if x2 < 0 ∨ 24 ≤ x2.toNatClampNeg then none else (if 0 ≤ (m.1 81 x2.toNatClampNeg) then (fX1_agreeWith_2 N n x1 (x2 + (1 : Int32)) m) else (if x2 < 0 ∨ 24 ≤ x2.toNatClampNeg then none else (if (m.1 77 x2.toNatClampNeg) = (m.1 x1 9) then (if (m.1 78 x2.toNatClampNeg) < 0 then (fX1_agreeWith_2 N n x1 (x2 + (1 : Int32)) m) else (if (6 : Int32) ≤ (m.1 78 x2.toNatClampNeg) then (fX1_agreeWith_2 N n x1 (x2 + (1 : Int32)) m) else (if (m.1 78 x2.toNatClampNeg) < 0 ∨ 6 ≤ (m.1 78 x2.toNatClampNeg).toNatClampNeg then none else (if x2 < 0 ∨ 24 ≤ x2.toNatClampNeg then none else (if (m.1 (x1 + 6) (m.1 78 x2.toNatClampNeg).toNatClampNeg) < (m.1 79 x2.toNatClampNeg) then (fX1_agreeWith_76 N (fun x1 x2 m => fX1_agreeWith_2 N n x1 x2 m) x1 x2 (0 : Int32) m) else (fX1_agreeWith_76 N (fun x1 x2 m => fX1_agreeWith_2 N n x1 x2 m) x1 x2 (1 : Int32) m)))))) else (fX1_agreeWith_2 N n x1 (x2 + (1 : Int32)) m))))))))
set_option maxHeartbeats 4000000 in
set_option maxRecDepth 100000 in
theorem tX1_agreeWith_2 (N : Nat) {l : Launch} {D : va_G} {ca : Nat → ClassId} {ad : Nat → Nat} {p : Program} {e : Env} {s : State} {mm : MethodId} {args : Array Value} {below : List Frame} {meth : Method} {c : Code}  (hn : HNc ca) (X : CX p s mm args meth c cX1_agreeWith 4 RX1 D ca ad (WA ca ad s.heap.size)) (hr : meth.sig.returnType = (some .boolean)) (fin : Int32) (m0 : Mem)  : ∀ (n : Nat) (x1 : Nat) (x2 : Int32) (m : Mem) (H : Heap) (locs : List Loc) (ls : Array Slot), ly ca x1 = (0, 0) → IW D ca ad (WA ca ad s.heap.size) s m H locs → lv_has ls 4 [(0, .ref (ad 76)), (1, .ref (ad x1)), (2, .int x2)] → fX1_agreeWith_2 N n x1 x2 m = some fin → m = m0 → W p l e rmX1_agreeWith s mm args below meth c H locs 0 0 (MQ below (QI D ca ad s.heap.size fin m0) args s 0 0 (WA ca ad s.heap.size)) (F0 mm 2 ls []) := by
  have hx := X.1
  have hb := X.2.1
  intro n
  induction n with
  | zero => intro x1 x2 m H locs ls hx1 hI hl hm hpm
            exact absurd hm (by intro q; cases q)
  | succ n ih =>
    intro x1 x2 m H locs ls hx1 hI hl hm hpm
    have hm : (if (24 : Int32) ≤ x2 then (some (1 : Int32)) else (if x2 < 0 ∨ 24 ≤ x2.toNatClampNeg then none else (if x2 < 0 ∨ 24 ≤ x2.toNatClampNeg then none else (if (m.1 82 x2.toNatClampNeg) = 0 then (fX1_agreeWith_2 N n x1 (x2 + (1 : Int32)) m) else (if x2 < 0 ∨ 24 ≤ x2.toNatClampNeg then none else (if 0 ≤ (m.1 81 x2.toNatClampNeg) then (fX1_agreeWith_2 N n x1 (x2 + (1 : Int32)) m) else (if x2 < 0 ∨ 24 ≤ x2.toNatClampNeg then none else (if (m.1 77 x2.toNatClampNeg) = (m.1 x1 9) then (if (m.1 78 x2.toNatClampNeg) < 0 then (fX1_agreeWith_2 N n x1 (x2 + (1 : Int32)) m) else (if (6 : Int32) ≤ (m.1 78 x2.toNatClampNeg) then (fX1_agreeWith_2 N n x1 (x2 + (1 : Int32)) m) else (if (m.1 78 x2.toNatClampNeg) < 0 ∨ 6 ≤ (m.1 78 x2.toNatClampNeg).toNatClampNeg then none else (if x2 < 0 ∨ 24 ≤ x2.toNatClampNeg then none else (if (m.1 (x1 + 6) (m.1 78 x2.toNatClampNeg).toNatClampNeg) < (m.1 79 x2.toNatClampNeg) then (fX1_agreeWith_76 N (fun x1 x2 m => fX1_agreeWith_2 N n x1 x2 m) x1 x2 (0 : Int32) m) else (fX1_agreeWith_76 N (fun x1 x2 m => fX1_agreeWith_2 N n x1 x2 m) x1 x2 (1 : Int32) m)))))) else (fX1_agreeWith_2 N n x1 (x2 + (1 : Int32)) m))))))))) = some fin := hm
    refine lv_iload_n hx hb dX1_agreeWith_2 rfl (lv_at hl 2 rfl) ?_
    refine lv_bipush (v := (24 : Int32)) hx hb dX1_agreeWith_3 (by decide) ?_
    refine lv_icmp_ge (tgt := 93) hx hb dX1_agreeWith_5 (by decide) (fun c1 => ?_) (fun c1 => ?_)
    · have hm := g_t c1 hm
      refine lv_iconst (v := (1 : Int32)) hx hb dX1_agreeWith_93 (by decide) ?_
      exact rZ X hI hr (by decide) (g_1 hm) hpm dX1_agreeWith_94
    · have hm := g_f c1 hm
      refine lv_aload_n hx hb dX1_agreeWith_8 rfl (lv_at hl 0 rfl) ?_
      refine gR X hI fdX1_15 (la_76 hn) rf1_1 dX1_agreeWith_9 ?_
      refine lv_iload_n hx hb dX1_agreeWith_12 rfl (lv_at hl 2 rfl) ?_
      obtain ⟨g2, hm⟩ := g_no hm
      refine aI X hI (la_78 hn) g2 dX1_agreeWith_13 ?_
      refine lv_istore_n (lv' := [(3, .int (m.1 78 x2.toNatClampNeg)), (0, .ref (ad 76)), (1, .ref (ad x1)), (2, .int x2)]) hx hb dX1_agreeWith_14 rfl hl (by decide) rfl (fun ls hl => ?_)
      refine lv_aload_n hx hb dX1_agreeWith_15 rfl (lv_at hl 1 rfl) ?_
      refine gR X hI fdX1_28 (la_76 hn) rf1_5 dX1_agreeWith_16 ?_
      refine lv_iload_n hx hb dX1_agreeWith_19 rfl (lv_at hl 3 rfl) ?_
      obtain ⟨g3, hm⟩ := g_no hm
      refine aZ X hI (la_82 hn) g3 dX1_agreeWith_20 ?_
      refine lv_if_eq (tgt := 87) hx hb dX1_agreeWith_21 (by decide) (fun c4 => ?_) (fun c4 => ?_)
      · have hm := g_t c4 hm
        refine lv_iinc (v := (x2 + (1 : Int32))) (lv' := [(2, .int (x2 + (1 : Int32))), (3, .int (m.1 78 x2.toNatClampNeg)), (0, .ref (ad 76)), (1, .ref (ad x1))]) hx hb dX1_agreeWith_87 hl (k := 3) rfl rfl (by decide) rfl (fun ls hl => ?_)
        refine lv_goto (tgt := 2) hx hb dX1_agreeWith_90 (by decide) ?_
        exact ih x1 (x2 + (1 : Int32)) m H locs ls hx1 hI (lv_sub hl [2, 3, 0] rfl) hm hpm
      · have hm := g_f c4 hm
        refine lv_aload_n hx hb dX1_agreeWith_24 rfl (lv_at hl 1 rfl) ?_
        refine gR X hI fdX1_25 (la_76 hn) rf1_4 dX1_agreeWith_25 ?_
        refine lv_iload_n hx hb dX1_agreeWith_28 rfl (lv_at hl 3 rfl) ?_
        obtain ⟨g5, hm⟩ := g_no hm
        refine aI X hI (la_81 hn) g5 dX1_agreeWith_29 ?_
        refine lv_if_ge (tgt := 87) hx hb dX1_agreeWith_30 (by decide) (fun c6 => ?_) (fun c6 => ?_)
        · have hm := g_t c6 hm
          refine lv_iinc (v := (x2 + (1 : Int32))) (lv' := [(2, .int (x2 + (1 : Int32))), (3, .int (m.1 78 x2.toNatClampNeg)), (0, .ref (ad 76)), (1, .ref (ad x1))]) hx hb dX1_agreeWith_87 hl (k := 3) rfl rfl (by decide) rfl (fun ls hl => ?_)
          refine lv_goto (tgt := 2) hx hb dX1_agreeWith_90 (by decide) ?_
          exact ih x1 (x2 + (1 : Int32)) m H locs ls hx1 hI (lv_sub hl [2, 3, 0] rfl) hm hpm
        · have hm := g_f c6 hm
          refine lv_aload_n hx hb dX1_agreeWith_33 rfl (lv_at hl 1 rfl) ?_
          refine gR X hI fdX1_9 (la_76 hn) rf1_0 dX1_agreeWith_34 ?_
          refine lv_iload_n hx hb dX1_agreeWith_37 rfl (lv_at hl 3 rfl) ?_
          obtain ⟨g7, hm⟩ := g_no hm
          refine aI X hI (la_77 hn) g7 dX1_agreeWith_38 ?_
          refine lv_aload_n hx hb dX1_agreeWith_39 rfl (lv_at hl 2 rfl) ?_
          refine gI X hI fdX1_52 hx1 dX1_agreeWith_40 ?_
          refine lv_icmp_ne (tgt := 87) hx hb dX1_agreeWith_43 (by decide) (fun c8 => ?_) (fun c8 => ?_)
          · have hm := g_f c8 hm
            refine lv_iinc (v := (x2 + (1 : Int32))) (lv' := [(2, .int (x2 + (1 : Int32))), (3, .int (m.1 78 x2.toNatClampNeg)), (0, .ref (ad 76)), (1, .ref (ad x1))]) hx hb dX1_agreeWith_87 hl (k := 3) rfl rfl (by decide) rfl (fun ls hl => ?_)
            refine lv_goto (tgt := 2) hx hb dX1_agreeWith_90 (by decide) ?_
            exact ih x1 (x2 + (1 : Int32)) m H locs ls hx1 hI (lv_sub hl [2, 3, 0] rfl) hm hpm
          · have hm := g_t c8 hm
            refine lv_iload_n hx hb dX1_agreeWith_46 rfl (lv_at hl 0 rfl) ?_
            refine lv_if_lt (tgt := 87) hx hb dX1_agreeWith_47 (by decide) (fun c9 => ?_) (fun c9 => ?_)
            · have hm := g_t c9 hm
              refine lv_iinc (v := (x2 + (1 : Int32))) (lv' := [(2, .int (x2 + (1 : Int32))), (3, .int (m.1 78 x2.toNatClampNeg)), (0, .ref (ad 76)), (1, .ref (ad x1))]) hx hb dX1_agreeWith_87 hl (k := 3) rfl rfl (by decide) rfl (fun ls hl => ?_)
              refine lv_goto (tgt := 2) hx hb dX1_agreeWith_90 (by decide) ?_
              exact ih x1 (x2 + (1 : Int32)) m H locs ls hx1 hI (lv_sub hl [2, 3, 0] rfl) hm hpm
            · have hm := g_f c9 hm
              refine lv_iload_n hx hb dX1_agreeWith_50 rfl (lv_at hl 0 rfl) ?_
              refine lv_bipush (v := (6 : Int32)) hx hb dX1_agreeWith_51 (by decide) ?_
              refine lv_icmp_ge (tgt := 87) hx hb dX1_agreeWith_53 (by decide) (fun c10 => ?_) (fun c10 => ?_)
              · have hm := g_t c10 hm
                refine lv_iinc (v := (x2 + (1 : Int32))) (lv' := [(2, .int (x2 + (1 : Int32))), (3, .int (m.1 78 x2.toNatClampNeg)), (0, .ref (ad 76)), (1, .ref (ad x1))]) hx hb dX1_agreeWith_87 hl (k := 3) rfl rfl (by decide) rfl (fun ls hl => ?_)
                refine lv_goto (tgt := 2) hx hb dX1_agreeWith_90 (by decide) ?_
                exact ih x1 (x2 + (1 : Int32)) m H locs ls hx1 hI (lv_sub hl [2, 3, 0] rfl) hm hpm
              · have hm := g_f c10 hm
                refine lv_aload_n hx hb dX1_agreeWith_56 rfl (lv_at hl 2 rfl) ?_
                refine gR X hI fdX1_57 hx1 rf0_5 dX1_agreeWith_57 ?_
                refine lv_iload_n hx hb dX1_agreeWith_60 rfl (lv_at hl 0 rfl) ?_
                obtain ⟨g11, hm⟩ := g_no hm
                refine aI X hI (lf0_5 hn hx1) g11 dX1_agreeWith_61 ?_
                refine lv_aload_n hx hb dX1_agreeWith_62 rfl (lv_at hl 1 rfl) ?_
                refine gR X hI fdX1_18 (la_76 hn) rf1_2 dX1_agreeWith_63 ?_
                refine lv_iload_n hx hb dX1_agreeWith_66 rfl (lv_at hl 3 rfl) ?_
                obtain ⟨g12, hm⟩ := g_no hm
                refine aI X hI (la_79 hn) g12 dX1_agreeWith_67 ?_
                refine lv_icmp_lt (tgt := 75) hx hb dX1_agreeWith_68 (by decide) (fun c13 => ?_) (fun c13 => ?_)
                · have hm := g_t c13 hm
                  refine lv_iconst (v := (0 : Int32)) hx hb dX1_agreeWith_75 (by decide) ?_
                  exact tX1_agreeWith_76 N hn X hr fin m0 ih x1 x2 (0 : Int32) m H locs ls hx1 hI (lv_sub hl [1, 2, 3] rfl) hm hpm
                · have hm := g_f c13 hm
                  refine lv_iconst (v := (1 : Int32)) hx hb dX1_agreeWith_71 (by decide) ?_
                  refine lv_goto (tgt := 76) hx hb dX1_agreeWith_72 (by decide) ?_
                  exact tX1_agreeWith_76 N hn X hr fin m0 ih x1 x2 (1 : Int32) m H locs ls hx1 hI (lv_sub hl [1, 2, 3] rfl) hm hpm
def fX1_agreeWith (N : Nat) (x1 : Nat) (m : Mem) : Option Int32 := fX1_agreeWith_2 N N x1 (0 : Int32) m
set_option maxHeartbeats 4000000 in
set_option maxRecDepth 100000 in
theorem ctX1_agreeWith {l : Launch} {D : va_G} {ca : Nat → ClassId} {ad : Nat → Nat} (N : Nat) (x1 : Nat) (hx1 : ly ca x1 = (0, 0)) (hn : HNc ca) (m : Mem) (fin : Int32) (hm : fX1_agreeWith N x1 m = some fin) : CI l D ca ad yX1_agreeWith cwX1_agreeWith rmX1_agreeWith [.ref (ad 76), .ref (ad x1)] m fin m := by
  refine start (by decide) (Nat.le_of_ble_eq_true rfl) ?_
  intro p e s mm args below meth c H locs ls X hI hr hl
  have X : CX p s mm args meth c cX1_agreeWith 4 RX1 D ca ad (WA ca ad s.heap.size) := X
  have hx := X.1
  have hb := X.2.1
  have hl : lv_has ls 4 [(0, .ref (ad 76)), (1, .ref (ad x1))] := hl
  have hm : (fX1_agreeWith_2 N N x1 (0 : Int32) m) = some fin := hm
  have hpm : m = m := rfl
  refine lv_iconst (v := (0 : Int32)) hx hb dX1_agreeWith_0 (by decide) ?_
  refine lv_istore_n (lv' := [(2, .int (0 : Int32)), (0, .ref (ad 76)), (1, .ref (ad x1))]) hx hb dX1_agreeWith_1 rfl hl (by decide) rfl (fun ls hl => ?_)
  exact tX1_agreeWith_2 N hn X hr fin m  N x1 (0 : Int32) m H locs ls hx1 hI (lv_sub hl [1, 2, 0] rfl) hm hpm
abbrev rmX5_bringCans : Room := { frames := 3, cells := 0, slots := 0, locals := 66 }
def fX5_bringCans_2 (N : Nat) : Nat → Nat → Nat → Int32 → Mem → Option Mem
  | 0, _, _, _, _ => none
  | n + 1, x0, x1, x2, m => if (m.1 x0 2) ≤ x2 then (some m) else ((fX9_cell x0 x2 (0 : Int32) m).bind (fun q2 => (fX9_cell x0 x2 (1 : Int32) m).bind (fun q4 => (fX9_cell x0 x2 (2 : Int32) m).bind (fun q6 => if q6 = (m.1 x1 9) then ((fX0_hasRoom x1 q2 q4 m).bind (fun q9 => if q9 = 0 then (fX5_bringCans_2 N n x0 x1 (x2 + (1 : Int32)) m) else ((fX0_pourIn x1 q2 q4 (990 : Int32) m).bind (fun q12 => fX5_bringCans_2 N n x0 x1 (x2 + (1 : Int32)) q12)))) else (fX5_bringCans_2 N n x0 x1 (x2 + (1 : Int32)) m)))))
set_option maxHeartbeats 4000000 in
set_option maxRecDepth 100000 in
theorem tX5_bringCans_2 (N : Nat) {l : Launch} {D : va_G} {ca : Nat → ClassId} {ad : Nat → Nat} {p : Program} {e : Env} {s : State} {mm : MethodId} {args : Array Value} {below : List Frame} {meth : Method} {c : Code}  (hn : HNc ca) (X : CX p s mm args meth c cX5_bringCans 5 RX5 D ca ad (WA ca ad s.heap.size)) (hr : meth.sig.returnType = none) (fin : Mem)  : ∀ (n : Nat) (x0 : Nat) (x1 : Nat) (x2 : Int32) (m : Mem) (H : Heap) (locs : List Loc) (ls : Array Slot), ly ca x0 = (0, 9) → ly ca x1 = (0, 0) → IW D ca ad (WA ca ad s.heap.size) s m H locs → lv_has ls 5 [(0, .ref (ad x0)), (1, .ref (ad x1)), (2, .int x2)] → fX5_bringCans_2 N n x0 x1 x2 m = some fin → W p l e rmX5_bringCans s mm args below meth c H locs 0 0 (MQ below (QV D ca ad s.heap.size fin) args s 0 0 (WA ca ad s.heap.size)) (F0 mm 2 ls []) := by
  have hx := X.1
  have hb := X.2.1
  intro n
  induction n with
  | zero => intro x0 x1 x2 m H locs ls hx0 hx1 hI hl hm
            exact absurd hm (by intro q; cases q)
  | succ n ih =>
    intro x0 x1 x2 m H locs ls hx0 hx1 hI hl hm
    have hm : (if (m.1 x0 2) ≤ x2 then (some m) else ((fX9_cell x0 x2 (0 : Int32) m).bind (fun q2 => (fX9_cell x0 x2 (1 : Int32) m).bind (fun q4 => (fX9_cell x0 x2 (2 : Int32) m).bind (fun q6 => if q6 = (m.1 x1 9) then ((fX0_hasRoom x1 q2 q4 m).bind (fun q9 => if q9 = 0 then (fX5_bringCans_2 N n x0 x1 (x2 + (1 : Int32)) m) else ((fX0_pourIn x1 q2 q4 (990 : Int32) m).bind (fun q12 => fX5_bringCans_2 N n x0 x1 (x2 + (1 : Int32)) q12)))) else (fX5_bringCans_2 N n x0 x1 (x2 + (1 : Int32)) m)))))) = some fin := hm
    refine lv_iload_n hx hb dX5_bringCans_2 rfl (lv_at hl 2 rfl) ?_
    refine lv_aload_n hx hb dX5_bringCans_3 rfl (lv_at hl 0 rfl) ?_
    refine gI X hI fdX5_63 hx0 dX5_bringCans_4 ?_
    refine lv_icmp_ge (tgt := 64) hx hb dX5_bringCans_7 (by decide) (fun c1 => ?_) (fun c1 => ?_)
    · have hm := g_t c1 hm
      exact rV X hI hr (g_1 hm) dX5_bringCans_64
    · have hm := g_f c1 hm
      refine lv_aload_n hx hb dX5_bringCans_10 rfl (lv_at hl 0 rfl) ?_
      refine lv_iload_n hx hb dX5_bringCans_11 rfl (lv_at hl 2 rfl) ?_
      refine lv_iconst (v := (0 : Int32)) hx hb dX5_bringCans_12 (by decide) ?_
      obtain ⟨q2, h3, hm⟩ := g_b hm
      refine backI X hI (runV X hI (ctX9_cell x0 x2 (0 : Int32) hx0 hn _ _ h3 _) mdX5_81 hx0 rfl ⟨rfl, rfl⟩ ⟨Nat.le_of_ble_eq_true rfl, Nat.le_of_ble_eq_true rfl⟩ rfl hl.1 rfl (Nat.le_of_ble_eq_true rfl) dX5_bringCans_13) (fun H locs hI => ?_)
      refine lv_istore_n (lv' := [(3, .int q2), (0, .ref (ad x0)), (1, .ref (ad x1)), (2, .int x2)]) hx hb dX5_bringCans_16 rfl hl (by decide) rfl (fun ls hl => ?_)
      refine lv_aload_n hx hb dX5_bringCans_17 rfl (lv_at hl 1 rfl) ?_
      refine lv_iload_n hx hb dX5_bringCans_18 rfl (lv_at hl 3 rfl) ?_
      refine lv_iconst (v := (1 : Int32)) hx hb dX5_bringCans_19 (by decide) ?_
      obtain ⟨q4, h5, hm⟩ := g_b hm
      refine backI X hI (runV X hI (ctX9_cell x0 x2 (1 : Int32) hx0 hn _ _ h5 _) mdX5_81 hx0 rfl ⟨rfl, rfl⟩ ⟨Nat.le_of_ble_eq_true rfl, Nat.le_of_ble_eq_true rfl⟩ rfl hl.1 rfl (Nat.le_of_ble_eq_true rfl) dX5_bringCans_20) (fun H locs hI => ?_)
      refine lv_istore (lv' := [(4, .int q4), (3, .int q2), (0, .ref (ad x0)), (1, .ref (ad x1)), (2, .int x2)]) hx hb dX5_bringCans_23 hl (by decide) rfl (fun ls hl => ?_)
      refine lv_aload_n hx hb dX5_bringCans_25 rfl (lv_at hl 2 rfl) ?_
      refine lv_iload_n hx hb dX5_bringCans_26 rfl (lv_at hl 4 rfl) ?_
      refine lv_iconst (v := (2 : Int32)) hx hb dX5_bringCans_27 (by decide) ?_
      obtain ⟨q6, h7, hm⟩ := g_b hm
      refine backI X hI (runV X hI (ctX9_cell x0 x2 (2 : Int32) hx0 hn _ _ h7 _) mdX5_81 hx0 rfl ⟨rfl, rfl⟩ ⟨Nat.le_of_ble_eq_true rfl, Nat.le_of_ble_eq_true rfl⟩ rfl hl.1 rfl (Nat.le_of_ble_eq_true rfl) dX5_bringCans_28) (fun H locs hI => ?_)
      refine lv_aload_n hx hb dX5_bringCans_31 rfl (lv_at hl 3 rfl) ?_
      refine gI X hI fdX5_78 hx1 dX5_bringCans_32 ?_
      refine lv_icmp_ne (tgt := 58) hx hb dX5_bringCans_35 (by decide) (fun c8 => ?_) (fun c8 => ?_)
      · have hm := g_f c8 hm
        refine lv_iinc (v := (x2 + (1 : Int32))) (lv' := [(2, .int (x2 + (1 : Int32))), (4, .int q4), (3, .int q2), (0, .ref (ad x0)), (1, .ref (ad x1))]) hx hb dX5_bringCans_58 hl (k := 4) rfl rfl (by decide) rfl (fun ls hl => ?_)
        refine lv_goto (tgt := 2) hx hb dX5_bringCans_61 (by decide) ?_
        exact ih x0 x1 (x2 + (1 : Int32)) m H locs ls hx0 hx1 hI (lv_sub hl [3, 4, 0] rfl) hm
      · have hm := g_t c8 hm
        refine lv_aload_n hx hb dX5_bringCans_38 rfl (lv_at hl 3 rfl) ?_
        refine lv_iload_n hx hb dX5_bringCans_39 rfl (lv_at hl 1 rfl) ?_
        refine lv_iload hx hb dX5_bringCans_40 (lv_at hl 0 rfl) ?_
        obtain ⟨q9, h10, hm⟩ := g_b hm
        refine backI X hI (runV X hI (ctX0_hasRoom x1 q2 q4 hx1 hn _ _ h10 _) mdX5_85 hx1 rfl ⟨rfl, rfl⟩ ⟨Nat.le_of_ble_eq_true rfl, Nat.le_of_ble_eq_true rfl⟩ rfl hl.1 rfl (Nat.le_of_ble_eq_true rfl) dX5_bringCans_42) (fun H locs hI => ?_)
        refine lv_if_eq (tgt := 58) hx hb dX5_bringCans_45 (by decide) (fun c11 => ?_) (fun c11 => ?_)
        · have hm := g_t c11 hm
          refine lv_iinc (v := (x2 + (1 : Int32))) (lv' := [(2, .int (x2 + (1 : Int32))), (4, .int q4), (3, .int q2), (0, .ref (ad x0)), (1, .ref (ad x1))]) hx hb dX5_bringCans_58 hl (k := 4) rfl rfl (by decide) rfl (fun ls hl => ?_)
          refine lv_goto (tgt := 2) hx hb dX5_bringCans_61 (by decide) ?_
          exact ih x0 x1 (x2 + (1 : Int32)) m H locs ls hx0 hx1 hI (lv_sub hl [3, 4, 0] rfl) hm
        · have hm := g_f c11 hm
          refine lv_aload_n hx hb dX5_bringCans_48 rfl (lv_at hl 3 rfl) ?_
          refine lv_iload_n hx hb dX5_bringCans_49 rfl (lv_at hl 1 rfl) ?_
          refine lv_iload hx hb dX5_bringCans_50 (lv_at hl 0 rfl) ?_
          refine lv_sipush (v := (990 : Int32)) hx hb dX5_bringCans_52 (by decide) ?_
          obtain ⟨q12, h13, hm⟩ := g_b hm
          refine backV X hI (runV X hI (ctX0_pourIn x1 q2 q4 (990 : Int32) hx1 hn _ _ h13 _) mdX5_89 hx1 rfl ⟨rfl, rfl⟩ ⟨Nat.le_of_ble_eq_true rfl, Nat.le_of_ble_eq_true rfl⟩ rfl hl.1 rfl (Nat.le_of_ble_eq_true rfl) dX5_bringCans_55) (fun H locs hI => ?_)
          refine lv_iinc (v := (x2 + (1 : Int32))) (lv' := [(2, .int (x2 + (1 : Int32))), (4, .int q4), (3, .int q2), (0, .ref (ad x0)), (1, .ref (ad x1))]) hx hb dX5_bringCans_58 hl (k := 4) rfl rfl (by decide) rfl (fun ls hl => ?_)
          refine lv_goto (tgt := 2) hx hb dX5_bringCans_61 (by decide) ?_
          exact ih x0 x1 (x2 + (1 : Int32)) q12 H locs ls hx0 hx1 hI (lv_sub hl [3, 4, 0] rfl) hm
def fX5_bringCans (N : Nat) (x0 : Nat) (x1 : Nat) (m : Mem) : Option Mem := fX5_bringCans_2 N N x0 x1 (0 : Int32) m
set_option maxHeartbeats 4000000 in
set_option maxRecDepth 100000 in
theorem ctX5_bringCans {l : Launch} {D : va_G} {ca : Nat → ClassId} {ad : Nat → Nat} (N : Nat) (x0 : Nat) (x1 : Nat) (hx0 : ly ca x0 = (0, 9)) (hx1 : ly ca x1 = (0, 0)) (hn : HNc ca) (m : Mem) (fin : Mem) (hm : fX5_bringCans N x0 x1 m = some fin) : CV l D ca ad yX5_bringCans cwX5_bringCans rmX5_bringCans [.ref (ad x0), .ref (ad x1)] m fin := by
  refine start (by decide) (Nat.le_of_ble_eq_true rfl) ?_
  intro p e s mm args below meth c H locs ls X hI hr hl
  have X : CX p s mm args meth c cX5_bringCans 5 RX5 D ca ad (WA ca ad s.heap.size) := X
  have hx := X.1
  have hb := X.2.1
  have hl : lv_has ls 5 [(0, .ref (ad x0)), (1, .ref (ad x1))] := hl
  have hm : (fX5_bringCans_2 N N x0 x1 (0 : Int32) m) = some fin := hm
  refine lv_iconst (v := (0 : Int32)) hx hb dX5_bringCans_0 (by decide) ?_
  refine lv_istore_n (lv' := [(2, .int (0 : Int32)), (0, .ref (ad x0)), (1, .ref (ad x1))]) hx hb dX5_bringCans_1 rfl hl (by decide) rfl (fun ls hl => ?_)
  exact tX5_bringCans_2 N hn X hr fin  N x0 x1 (0 : Int32) m H locs ls hx0 hx1 hI (lv_sub hl [1, 2, 0] rfl) hm
abbrev rmX5_runPipes : Room := { frames := 3, cells := 0, slots := 0, locals := 66 }
def fX5_runPipes_2 (N : Nat) : Nat → Nat → Nat → Int32 → Mem → Option Mem
  | 0, _, _, _, _ => none
  | n + 1, x0, x1, x2, m => if (m.1 x0 2) ≤ x2 then (some m) else ((fX9_cell x0 x2 (0 : Int32) m).bind (fun q2 => (fX9_cell x0 x2 (1 : Int32) m).bind (fun q4 => if q2 < 0 then (fX5_runPipes_2 N n x0 x1 (x2 + (1 : Int32)) m) else (if q2 < (6 : Int32) then ((fX9_cell x0 x2 (2 : Int32) m).bind (fun q8 => if q2 < 0 ∨ 6 ≤ q2.toNatClampNeg then none else (if (imin q8 ((m.1 (x1 + 1) q2.toNatClampNeg) - (1 : Int32))) ≤ 0 then (fX5_runPipes_2 N n x0 x1 (x2 + (1 : Int32)) m) else ((fX0_hasRoom x1 q4 (imin q8 ((m.1 (x1 + 1) q2.toNatClampNeg) - (1 : Int32))) m).bind (fun q12 => if q12 = 0 then (fX5_runPipes_2 N n x0 x1 (x2 + (1 : Int32)) m) else (if q2 < 0 ∨ 6 ≤ q2.toNatClampNeg then none else ((fX0_pourIn x1 q4 (imin q8 ((m.1 (x1 + 1) q2.toNatClampNeg) - (1 : Int32))) (m.1 (x1 + 2) q2.toNatClampNeg) m).bind (fun q16 => if q2 < 0 ∨ 6 ≤ q2.toNatClampNeg then none else (if q2 < 0 ∨ 6 ≤ q2.toNatClampNeg then none else (fX5_runPipes_2 N n x0 x1 (x2 + (1 : Int32)) (mI q16 (x1 + 1) q2.toNatClampNeg ((q16.1 (x1 + 1) q2.toNatClampNeg) - (imin q8 ((m.1 (x1 + 1) q2.toNatClampNeg) - (1 : Int32))))))))))))))) else (fX5_runPipes_2 N n x0 x1 (x2 + (1 : Int32)) m)))))
set_option maxHeartbeats 4000000 in
set_option maxRecDepth 100000 in
theorem tX5_runPipes_2 (N : Nat) {l : Launch} {D : va_G} {ca : Nat → ClassId} {ad : Nat → Nat} {p : Program} {e : Env} {s : State} {mm : MethodId} {args : Array Value} {below : List Frame} {meth : Method} {c : Code}  (hn : HNc ca) (X : CX p s mm args meth c cX5_runPipes 6 RX5 D ca ad (WA ca ad s.heap.size)) (hr : meth.sig.returnType = none) (fin : Mem)  : ∀ (n : Nat) (x0 : Nat) (x1 : Nat) (x2 : Int32) (m : Mem) (H : Heap) (locs : List Loc) (ls : Array Slot), ly ca x0 = (0, 9) → ly ca x1 = (0, 0) → IW D ca ad (WA ca ad s.heap.size) s m H locs → lv_has ls 6 [(0, .ref (ad x0)), (1, .ref (ad x1)), (2, .int x2)] → fX5_runPipes_2 N n x0 x1 x2 m = some fin → W p l e rmX5_runPipes s mm args below meth c H locs 0 0 (MQ below (QV D ca ad s.heap.size fin) args s 0 0 (WA ca ad s.heap.size)) (F0 mm 2 ls []) := by
  have hx := X.1
  have hb := X.2.1
  intro n
  induction n with
  | zero => intro x0 x1 x2 m H locs ls hx0 hx1 hI hl hm
            exact absurd hm (by intro q; cases q)
  | succ n ih =>
    intro x0 x1 x2 m H locs ls hx0 hx1 hI hl hm
    have hm : (if (m.1 x0 2) ≤ x2 then (some m) else ((fX9_cell x0 x2 (0 : Int32) m).bind (fun q2 => (fX9_cell x0 x2 (1 : Int32) m).bind (fun q4 => if q2 < 0 then (fX5_runPipes_2 N n x0 x1 (x2 + (1 : Int32)) m) else (if q2 < (6 : Int32) then ((fX9_cell x0 x2 (2 : Int32) m).bind (fun q8 => if q2 < 0 ∨ 6 ≤ q2.toNatClampNeg then none else (if (imin q8 ((m.1 (x1 + 1) q2.toNatClampNeg) - (1 : Int32))) ≤ 0 then (fX5_runPipes_2 N n x0 x1 (x2 + (1 : Int32)) m) else ((fX0_hasRoom x1 q4 (imin q8 ((m.1 (x1 + 1) q2.toNatClampNeg) - (1 : Int32))) m).bind (fun q12 => if q12 = 0 then (fX5_runPipes_2 N n x0 x1 (x2 + (1 : Int32)) m) else (if q2 < 0 ∨ 6 ≤ q2.toNatClampNeg then none else ((fX0_pourIn x1 q4 (imin q8 ((m.1 (x1 + 1) q2.toNatClampNeg) - (1 : Int32))) (m.1 (x1 + 2) q2.toNatClampNeg) m).bind (fun q16 => if q2 < 0 ∨ 6 ≤ q2.toNatClampNeg then none else (if q2 < 0 ∨ 6 ≤ q2.toNatClampNeg then none else (fX5_runPipes_2 N n x0 x1 (x2 + (1 : Int32)) (mI q16 (x1 + 1) q2.toNatClampNeg ((q16.1 (x1 + 1) q2.toNatClampNeg) - (imin q8 ((m.1 (x1 + 1) q2.toNatClampNeg) - (1 : Int32))))))))))))))) else (fX5_runPipes_2 N n x0 x1 (x2 + (1 : Int32)) m)))))) = some fin := hm
    refine lv_iload_n hx hb dX5_runPipes_2 rfl (lv_at hl 2 rfl) ?_
    refine lv_aload_n hx hb dX5_runPipes_3 rfl (lv_at hl 0 rfl) ?_
    refine gI X hI fdX5_63 hx0 dX5_runPipes_4 ?_
    refine lv_icmp_ge (tgt := 104) hx hb dX5_runPipes_7 (by decide) (fun c1 => ?_) (fun c1 => ?_)
    · have hm := g_t c1 hm
      exact rV X hI hr (g_1 hm) dX5_runPipes_104
    · have hm := g_f c1 hm
      refine lv_aload_n hx hb dX5_runPipes_10 rfl (lv_at hl 0 rfl) ?_
      refine lv_iload_n hx hb dX5_runPipes_11 rfl (lv_at hl 2 rfl) ?_
      refine lv_iconst (v := (0 : Int32)) hx hb dX5_runPipes_12 (by decide) ?_
      obtain ⟨q2, h3, hm⟩ := g_b hm
      refine backI X hI (runV X hI (ctX9_cell x0 x2 (0 : Int32) hx0 hn _ _ h3 _) mdX5_81 hx0 rfl ⟨rfl, rfl⟩ ⟨Nat.le_of_ble_eq_true rfl, Nat.le_of_ble_eq_true rfl⟩ rfl hl.1 rfl (Nat.le_of_ble_eq_true rfl) dX5_runPipes_13) (fun H locs hI => ?_)
      refine lv_istore_n (lv' := [(3, .int q2), (0, .ref (ad x0)), (1, .ref (ad x1)), (2, .int x2)]) hx hb dX5_runPipes_16 rfl hl (by decide) rfl (fun ls hl => ?_)
      refine lv_aload_n hx hb dX5_runPipes_17 rfl (lv_at hl 1 rfl) ?_
      refine lv_iload_n hx hb dX5_runPipes_18 rfl (lv_at hl 3 rfl) ?_
      refine lv_iconst (v := (1 : Int32)) hx hb dX5_runPipes_19 (by decide) ?_
      obtain ⟨q4, h5, hm⟩ := g_b hm
      refine backI X hI (runV X hI (ctX9_cell x0 x2 (1 : Int32) hx0 hn _ _ h5 _) mdX5_81 hx0 rfl ⟨rfl, rfl⟩ ⟨Nat.le_of_ble_eq_true rfl, Nat.le_of_ble_eq_true rfl⟩ rfl hl.1 rfl (Nat.le_of_ble_eq_true rfl) dX5_runPipes_20) (fun H locs hI => ?_)
      refine lv_istore (lv' := [(4, .int q4), (3, .int q2), (0, .ref (ad x0)), (1, .ref (ad x1)), (2, .int x2)]) hx hb dX5_runPipes_23 hl (by decide) rfl (fun ls hl => ?_)
      refine lv_iload_n hx hb dX5_runPipes_25 rfl (lv_at hl 1 rfl) ?_
      refine lv_if_lt (tgt := 98) hx hb dX5_runPipes_26 (by decide) (fun c6 => ?_) (fun c6 => ?_)
      · have hm := g_t c6 hm
        refine lv_iinc (v := (x2 + (1 : Int32))) (lv' := [(2, .int (x2 + (1 : Int32))), (4, .int q4), (3, .int q2), (0, .ref (ad x0)), (1, .ref (ad x1))]) hx hb dX5_runPipes_98 hl (k := 4) rfl rfl (by decide) rfl (fun ls hl => ?_)
        refine lv_goto (tgt := 2) hx hb dX5_runPipes_101 (by decide) ?_
        exact ih x0 x1 (x2 + (1 : Int32)) m H locs ls hx0 hx1 hI (lv_sub hl [3, 4, 0] rfl) hm
      · have hm := g_f c6 hm
        refine lv_iload_n hx hb dX5_runPipes_29 rfl (lv_at hl 1 rfl) ?_
        refine lv_bipush (v := (6 : Int32)) hx hb dX5_runPipes_30 (by decide) ?_
        refine lv_icmp_lt (tgt := 38) hx hb dX5_runPipes_32 (by decide) (fun c7 => ?_) (fun c7 => ?_)
        · have hm := g_t c7 hm
          refine lv_aload_n hx hb dX5_runPipes_38 rfl (lv_at hl 2 rfl) ?_
          refine lv_iload_n hx hb dX5_runPipes_39 rfl (lv_at hl 4 rfl) ?_
          refine lv_iconst (v := (2 : Int32)) hx hb dX5_runPipes_40 (by decide) ?_
          obtain ⟨q8, h9, hm⟩ := g_b hm
          refine backI X hI (runV X hI (ctX9_cell x0 x2 (2 : Int32) hx0 hn _ _ h9 _) mdX5_81 hx0 rfl ⟨rfl, rfl⟩ ⟨Nat.le_of_ble_eq_true rfl, Nat.le_of_ble_eq_true rfl⟩ rfl hl.1 rfl (Nat.le_of_ble_eq_true rfl) dX5_runPipes_41) (fun H locs hI => ?_)
          refine lv_aload_n hx hb dX5_runPipes_44 rfl (lv_at hl 3 rfl) ?_
          refine gR X hI fdX5_93 hx1 rf0_0 dX5_runPipes_45 ?_
          refine lv_iload_n hx hb dX5_runPipes_48 rfl (lv_at hl 1 rfl) ?_
          obtain ⟨g10, hm⟩ := g_no hm
          refine aI X hI (lf0_0 hn hx1) g10 dX5_runPipes_49 ?_
          refine lv_iconst (v := (1 : Int32)) hx hb dX5_runPipes_50 (by decide) ?_
          refine lv_isub hx hb dX5_runPipes_51 ?_
          refine kMin X mpX5_96 hl.1 (Nat.le_of_ble_eq_true rfl) (Nat.le_of_ble_eq_true rfl) dX5_runPipes_52 ?_
          refine lv_istore (lv' := [(5, .int (imin q8 ((m.1 (x1 + 1) q2.toNatClampNeg) - (1 : Int32)))), (4, .int q4), (3, .int q2), (0, .ref (ad x0)), (1, .ref (ad x1)), (2, .int x2)]) hx hb dX5_runPipes_55 hl (by decide) rfl (fun ls hl => ?_)
          refine lv_iload hx hb dX5_runPipes_57 (lv_at hl 0 rfl) ?_
          refine lv_if_le (tgt := 98) hx hb dX5_runPipes_59 (by decide) (fun c11 => ?_) (fun c11 => ?_)
          · have hm := g_t c11 hm
            refine lv_iinc (v := (x2 + (1 : Int32))) (lv' := [(2, .int (x2 + (1 : Int32))), (5, .int (imin q8 ((m.1 (x1 + 1) q2.toNatClampNeg) - (1 : Int32)))), (4, .int q4), (3, .int q2), (0, .ref (ad x0)), (1, .ref (ad x1))]) hx hb dX5_runPipes_98 hl (k := 5) rfl rfl (by decide) rfl (fun ls hl => ?_)
            refine lv_goto (tgt := 2) hx hb dX5_runPipes_101 (by decide) ?_
            exact ih x0 x1 (x2 + (1 : Int32)) m H locs ls hx0 hx1 hI (lv_sub hl [4, 5, 0] rfl) hm
          · have hm := g_f c11 hm
            refine lv_aload_n hx hb dX5_runPipes_62 rfl (lv_at hl 4 rfl) ?_
            refine lv_iload hx hb dX5_runPipes_63 (lv_at hl 1 rfl) ?_
            refine lv_iload hx hb dX5_runPipes_65 (lv_at hl 0 rfl) ?_
            obtain ⟨q12, h13, hm⟩ := g_b hm
            refine backI X hI (runV X hI (ctX0_hasRoom x1 q4 (imin q8 ((m.1 (x1 + 1) q2.toNatClampNeg) - (1 : Int32))) hx1 hn _ _ h13 _) mdX5_85 hx1 rfl ⟨rfl, rfl⟩ ⟨Nat.le_of_ble_eq_true rfl, Nat.le_of_ble_eq_true rfl⟩ rfl hl.1 rfl (Nat.le_of_ble_eq_true rfl) dX5_runPipes_67) (fun H locs hI => ?_)
            refine lv_if_eq (tgt := 98) hx hb dX5_runPipes_70 (by decide) (fun c14 => ?_) (fun c14 => ?_)
            · have hm := g_t c14 hm
              refine lv_iinc (v := (x2 + (1 : Int32))) (lv' := [(2, .int (x2 + (1 : Int32))), (5, .int (imin q8 ((m.1 (x1 + 1) q2.toNatClampNeg) - (1 : Int32)))), (4, .int q4), (3, .int q2), (0, .ref (ad x0)), (1, .ref (ad x1))]) hx hb dX5_runPipes_98 hl (k := 5) rfl rfl (by decide) rfl (fun ls hl => ?_)
              refine lv_goto (tgt := 2) hx hb dX5_runPipes_101 (by decide) ?_
              exact ih x0 x1 (x2 + (1 : Int32)) m H locs ls hx0 hx1 hI (lv_sub hl [4, 5, 0] rfl) hm
            · have hm := g_f c14 hm
              refine lv_aload_n hx hb dX5_runPipes_73 rfl (lv_at hl 4 rfl) ?_
              refine lv_iload hx hb dX5_runPipes_74 (lv_at hl 1 rfl) ?_
              refine lv_iload hx hb dX5_runPipes_76 (lv_at hl 0 rfl) ?_
              refine lv_aload_n hx hb dX5_runPipes_78 rfl (lv_at hl 4 rfl) ?_
              refine gR X hI fdX5_101 hx1 rf0_1 dX5_runPipes_79 ?_
              refine lv_iload_n hx hb dX5_runPipes_82 rfl (lv_at hl 2 rfl) ?_
              obtain ⟨g15, hm⟩ := g_no hm
              refine aI X hI (lf0_1 hn hx1) g15 dX5_runPipes_83 ?_
              obtain ⟨q16, h17, hm⟩ := g_b hm
              refine backV X hI (runV X hI (ctX0_pourIn x1 q4 (imin q8 ((m.1 (x1 + 1) q2.toNatClampNeg) - (1 : Int32))) (m.1 (x1 + 2) q2.toNatClampNeg) hx1 hn _ _ h17 _) mdX5_89 hx1 rfl ⟨rfl, rfl⟩ ⟨Nat.le_of_ble_eq_true rfl, Nat.le_of_ble_eq_true rfl⟩ rfl hl.1 rfl (Nat.le_of_ble_eq_true rfl) dX5_runPipes_84) (fun H locs hI => ?_)
              refine lv_aload_n hx hb dX5_runPipes_87 rfl (lv_at hl 4 rfl) ?_
              refine gR X hI fdX5_93 hx1 rf0_0 dX5_runPipes_88 ?_
              refine lv_iload_n hx hb dX5_runPipes_91 rfl (lv_at hl 2 rfl) ?_
              refine lv_dup2_11 hx hb dX5_runPipes_92 rfl rfl ?_
              obtain ⟨g18, hm⟩ := g_no hm
              refine aI X hI (lf0_0 hn hx1) g18 dX5_runPipes_93 ?_
              refine lv_iload hx hb dX5_runPipes_94 (lv_at hl 0 rfl) ?_
              refine lv_isub hx hb dX5_runPipes_96 ?_
              obtain ⟨g19, hm⟩ := g_no hm
              refine sI X hI (lf0_0 hn hx1) g19 dX5_runPipes_97 (fun H locs hI => ?_)
              refine lv_iinc (v := (x2 + (1 : Int32))) (lv' := [(2, .int (x2 + (1 : Int32))), (5, .int (imin q8 ((m.1 (x1 + 1) q2.toNatClampNeg) - (1 : Int32)))), (4, .int q4), (3, .int q2), (0, .ref (ad x0)), (1, .ref (ad x1))]) hx hb dX5_runPipes_98 hl (k := 5) rfl rfl (by decide) rfl (fun ls hl => ?_)
              refine lv_goto (tgt := 2) hx hb dX5_runPipes_101 (by decide) ?_
              exact ih x0 x1 (x2 + (1 : Int32)) (mI q16 (x1 + 1) q2.toNatClampNeg ((q16.1 (x1 + 1) q2.toNatClampNeg) - (imin q8 ((m.1 (x1 + 1) q2.toNatClampNeg) - (1 : Int32))))) H locs ls hx0 hx1 hI (lv_sub hl [4, 5, 0] rfl) hm
        · have hm := g_f c7 hm
          refine lv_goto (tgt := 98) hx hb dX5_runPipes_35 (by decide) ?_
          refine lv_iinc (v := (x2 + (1 : Int32))) (lv' := [(2, .int (x2 + (1 : Int32))), (4, .int q4), (3, .int q2), (0, .ref (ad x0)), (1, .ref (ad x1))]) hx hb dX5_runPipes_98 hl (k := 4) rfl rfl (by decide) rfl (fun ls hl => ?_)
          refine lv_goto (tgt := 2) hx hb dX5_runPipes_101 (by decide) ?_
          exact ih x0 x1 (x2 + (1 : Int32)) m H locs ls hx0 hx1 hI (lv_sub hl [3, 4, 0] rfl) hm
def fX5_runPipes (N : Nat) (x0 : Nat) (x1 : Nat) (m : Mem) : Option Mem := fX5_runPipes_2 N N x0 x1 (0 : Int32) m
set_option maxHeartbeats 4000000 in
set_option maxRecDepth 100000 in
theorem ctX5_runPipes {l : Launch} {D : va_G} {ca : Nat → ClassId} {ad : Nat → Nat} (N : Nat) (x0 : Nat) (x1 : Nat) (hx0 : ly ca x0 = (0, 9)) (hx1 : ly ca x1 = (0, 0)) (hn : HNc ca) (m : Mem) (fin : Mem) (hm : fX5_runPipes N x0 x1 m = some fin) : CV l D ca ad yX5_runPipes cwX5_runPipes rmX5_runPipes [.ref (ad x0), .ref (ad x1)] m fin := by
  refine start (by decide) (Nat.le_of_ble_eq_true rfl) ?_
  intro p e s mm args below meth c H locs ls X hI hr hl
  have X : CX p s mm args meth c cX5_runPipes 6 RX5 D ca ad (WA ca ad s.heap.size) := X
  have hx := X.1
  have hb := X.2.1
  have hl : lv_has ls 6 [(0, .ref (ad x0)), (1, .ref (ad x1))] := hl
  have hm : (fX5_runPipes_2 N N x0 x1 (0 : Int32) m) = some fin := hm
  refine lv_iconst (v := (0 : Int32)) hx hb dX5_runPipes_0 (by decide) ?_
  refine lv_istore_n (lv' := [(2, .int (0 : Int32)), (0, .ref (ad x0)), (1, .ref (ad x1))]) hx hb dX5_runPipes_1 rfl hl (by decide) rfl (fun ls hl => ?_)
  exact tX5_runPipes_2 N hn X hr fin  N x0 x1 (0 : Int32) m H locs ls hx0 hx1 hI (lv_sub hl [1, 2, 0] rfl) hm
abbrev rmX3_isTold : Room := { frames := 0, cells := 0, slots := 0, locals := 0 }
def fX3_isTold  (x0 : Nat) (x1 : Int32) (m : Mem) : Option Int32 := if x1 < 0 then (some (0 : Int32)) else (if (2 : Int32) < x1 then (some (0 : Int32)) else (if x1 < 0 ∨ 3 ≤ x1.toNatClampNeg then none else (if x1 < 0 ∨ 3 ≤ x1.toNatClampNeg then none else (if (m.1 (x0 + 4) x1.toNatClampNeg) ≤ (m.1 (x0 + 3) x1.toNatClampNeg) then (some (0 : Int32)) else (some (1 : Int32))))))
set_option maxHeartbeats 4000000 in
set_option maxRecDepth 100000 in
theorem ctX3_isTold {l : Launch} {D : va_G} {ca : Nat → ClassId} {ad : Nat → Nat}  (x0 : Nat) (x1 : Int32) (hx0 : ly ca x0 = (0, 3)) (hn : HNc ca) (m : Mem) (fin : Int32) (hm : fX3_isTold x0 x1 m = some fin) : CI l D ca ad yX3_isTold cwX3_isTold rmX3_isTold [.ref (ad x0), .int x1] m fin m := by
  refine start (by decide) (Nat.le_of_ble_eq_true rfl) ?_
  intro p e s mm args below meth c H locs ls X hI hr hl
  have X : CX p s mm args meth c cX3_isTold 2 RX3 D ca ad (WA ca ad s.heap.size) := X
  have hx := X.1
  have hb := X.2.1
  have hl : lv_has ls 2 [(0, .ref (ad x0)), (1, .int x1)] := hl
  have hm : (if x1 < 0 then (some (0 : Int32)) else (if (2 : Int32) < x1 then (some (0 : Int32)) else (if x1 < 0 ∨ 3 ≤ x1.toNatClampNeg then none else (if x1 < 0 ∨ 3 ≤ x1.toNatClampNeg then none else (if (m.1 (x0 + 4) x1.toNatClampNeg) ≤ (m.1 (x0 + 3) x1.toNatClampNeg) then (some (0 : Int32)) else (some (1 : Int32))))))) = some fin := hm
  have hpm : m = m := rfl
  refine lv_iload_n hx hb dX3_isTold_0 rfl (lv_at hl 1 rfl) ?_
  refine lv_if_lt (tgt := 28) hx hb dX3_isTold_1 (by decide) (fun c1 => ?_) (fun c1 => ?_)
  · have hm := g_t c1 hm
    refine lv_iconst (v := (0 : Int32)) hx hb dX3_isTold_28 (by decide) ?_
    exact rZ X hI hr (by decide) (g_1 hm) hpm dX3_isTold_29
  · have hm := g_f c1 hm
    refine lv_iload_n hx hb dX3_isTold_4 rfl (lv_at hl 1 rfl) ?_
    refine lv_iconst (v := (2 : Int32)) hx hb dX3_isTold_5 (by decide) ?_
    refine lv_icmp_gt (tgt := 28) hx hb dX3_isTold_6 (by decide) (fun c2 => ?_) (fun c2 => ?_)
    · have hm := g_t c2 hm
      refine lv_iconst (v := (0 : Int32)) hx hb dX3_isTold_28 (by decide) ?_
      exact rZ X hI hr (by decide) (g_1 hm) hpm dX3_isTold_29
    · have hm := g_f c2 hm
      refine lv_aload_n hx hb dX3_isTold_9 rfl (lv_at hl 0 rfl) ?_
      refine gR X hI fdX3_21 hx0 rf3_3 dX3_isTold_10 ?_
      refine lv_iload_n hx hb dX3_isTold_13 rfl (lv_at hl 1 rfl) ?_
      obtain ⟨g3, hm⟩ := g_no hm
      refine aI X hI (lf3_3 hn hx0) g3 dX3_isTold_14 ?_
      refine lv_aload_n hx hb dX3_isTold_15 rfl (lv_at hl 0 rfl) ?_
      refine gR X hI fdX3_18 hx0 rf3_2 dX3_isTold_16 ?_
      refine lv_iload_n hx hb dX3_isTold_19 rfl (lv_at hl 1 rfl) ?_
      obtain ⟨g4, hm⟩ := g_no hm
      refine aI X hI (lf3_2 hn hx0) g4 dX3_isTold_20 ?_
      refine lv_icmp_le (tgt := 28) hx hb dX3_isTold_21 (by decide) (fun c5 => ?_) (fun c5 => ?_)
      · have hm := g_t c5 hm
        refine lv_iconst (v := (0 : Int32)) hx hb dX3_isTold_28 (by decide) ?_
        exact rZ X hI hr (by decide) (g_1 hm) hpm dX3_isTold_29
      · have hm := g_f c5 hm
        refine lv_iconst (v := (1 : Int32)) hx hb dX3_isTold_24 (by decide) ?_
        refine lv_goto (tgt := 29) hx hb dX3_isTold_25 (by decide) ?_
        exact rZ X hI hr (by decide) (g_1 hm) hpm dX3_isTold_29
abbrev rmX6_rankOf : Room := { frames := 1, cells := 0, slots := 0, locals := 23 }
def fX6_rankOf  (x0 : Nat) (x1 : Int32) (m : Mem) : Option Int32 := (fX9_cell (x0 + 1) x1 (2 : Int32) m).bind (fun q1 => some q1)
set_option maxHeartbeats 4000000 in
set_option maxRecDepth 100000 in
theorem ctX6_rankOf {l : Launch} {D : va_G} {ca : Nat → ClassId} {ad : Nat → Nat}  (x0 : Nat) (x1 : Int32) (hx0 : ly ca x0 = (0, 6)) (hn : HNc ca) (m : Mem) (fin : Int32) (hm : fX6_rankOf x0 x1 m = some fin) : CI l D ca ad yX6_rankOf cwX6_rankOf rmX6_rankOf [.ref (ad x0), .int x1] m fin m := by
  refine start (by decide) (Nat.le_of_ble_eq_true rfl) ?_
  intro p e s mm args below meth c H locs ls X hI hr hl
  have X : CX p s mm args meth c cX6_rankOf 2 RX6 D ca ad (WA ca ad s.heap.size) := X
  have hx := X.1
  have hb := X.2.1
  have hl : lv_has ls 2 [(0, .ref (ad x0)), (1, .int x1)] := hl
  have hm : ((fX9_cell (x0 + 1) x1 (2 : Int32) m).bind (fun q1 => some q1)) = some fin := hm
  have hpm : m = m := rfl
  refine lv_aload_n hx hb dX6_rankOf_0 rfl (lv_at hl 0 rfl) ?_
  refine gR X hI fdX6_14 hx0 rf6_0 dX6_rankOf_1 ?_
  refine lv_iload_n hx hb dX6_rankOf_4 rfl (lv_at hl 1 rfl) ?_
  refine lv_iconst (v := (2 : Int32)) hx hb dX6_rankOf_5 (by decide) ?_
  obtain ⟨q1, h2, hm⟩ := g_b hm
  refine backI X hI (runV X hI (ctX9_cell (x0 + 1) x1 (2 : Int32) (lf6_0 hn hx0) hn _ _ h2 _) mdX6_62 (lf6_0 hn hx0) rfl ⟨rfl, rfl⟩ ⟨Nat.le_of_ble_eq_true rfl, Nat.le_of_ble_eq_true rfl⟩ rfl hl.1 rfl (Nat.le_of_ble_eq_true rfl) dX6_rankOf_6) (fun H locs hI => ?_)
  exact rI X hI hr (g_1 hm) hpm dX6_rankOf_9
abbrev rmX3_joined : Room := { frames := 0, cells := 0, slots := 0, locals := 0 }
def fX3_joined_251  (x1 : Int64) (x3 : Int64) (y0 : Int64) (y1 : Int64) (m : Mem) : Option Int64 := if y0 = 0 then none else (if 0 < (lg_cmp x3 (y1 / y0)) then (some (-9223372036854775808 : Int64)) else (if 0 ≤ (lg_cmp x3 (-(y1 / y0))) then (some (x1 * x3)) else (some (-9223372036854775808 : Int64))))
set_option maxHeartbeats 4000000 in
set_option maxRecDepth 100000 in
theorem tX3_joined_251  {l : Launch} {D : va_G} {ca : Nat → ClassId} {ad : Nat → Nat} {p : Program} {e : Env} {s : State} {mm : MethodId} {args : Array Value} {below : List Frame} {meth : Method} {c : Code}  (hn : HNc ca) (X : CX p s mm args meth c cX3_joined 7 RX3 D ca ad (WA ca ad s.heap.size)) (hr : meth.sig.returnType = (some .long)) (fin : Int64) (m0 : Mem)  : ∀ (x1 : Int64) (x3 : Int64) (y0 : Int64) (y1 : Int64) (m : Mem) (H : Heap) (locs : List Loc) (ls : Array Slot), IW D ca ad (WA ca ad s.heap.size) s m H locs → lv_has ls 7 [(1, .long x1), (3, .long x3)] → fX3_joined_251  x1 x3 y0 y1 m = some fin → m = m0 → W p l e rmX3_joined s mm args below meth c H locs 0 0 (MQ below (QL D ca ad s.heap.size fin m0) args s 0 0 (WA ca ad s.heap.size)) (F0 mm 251 ls [.long y0, .long y1]) := by
  have hx := X.1
  have hb := X.2.1
  intro x1 x3 y0 y1 m H locs ls hI hl hm hpm
  have hm : (if y0 = 0 then none else (if 0 < (lg_cmp x3 (y1 / y0)) then (some (-9223372036854775808 : Int64)) else (if 0 ≤ (lg_cmp x3 (-(y1 / y0))) then (some (x1 * x3)) else (some (-9223372036854775808 : Int64))))) = some fin := hm
  obtain ⟨g36, hm⟩ := g_no hm
  refine lv_ldiv hx hb dX3_joined_251 g36 ?_
  refine lv_lstore (lv' := [(5, .long (y1 / y0)), (1, .long x1), (3, .long x3)]) hx hb dX3_joined_252 hl (by decide) rfl (fun ls hl => ?_)
  refine lv_lload_n hx hb dX3_joined_254 rfl (lv_at hl 2 rfl) ?_
  refine lv_lload hx hb dX3_joined_255 (lv_at hl 0 rfl) ?_
  refine W.lcmp hx hb dX3_joined_257 ?_
  refine lv_if_gt (tgt := 269) hx hb dX3_joined_258 (by decide) (fun c37 => ?_) (fun c37 => ?_)
  · have hm := g_t c37 hm
    refine lv_ldc2 hx hb X.2.2.2.1 (X.2.2.2.2.1 _ kcX3_42) dX3_joined_269 ?_
    refine lv_goto (tgt := 278) hx hb dX3_joined_272 (by decide) ?_
    exact rL X hI hr (g_1 hm) hpm dX3_joined_278
  · have hm := g_f c37 hm
    refine lv_lload_n hx hb dX3_joined_261 rfl (lv_at hl 2 rfl) ?_
    refine lv_lload hx hb dX3_joined_262 (lv_at hl 0 rfl) ?_
    refine lv_lneg hx hb dX3_joined_264 ?_
    refine W.lcmp hx hb dX3_joined_265 ?_
    refine lv_if_ge (tgt := 275) hx hb dX3_joined_266 (by decide) (fun c38 => ?_) (fun c38 => ?_)
    · have hm := g_t c38 hm
      refine lv_lload_n hx hb dX3_joined_275 rfl (lv_at hl 1 rfl) ?_
      refine lv_lload_n hx hb dX3_joined_276 rfl (lv_at hl 2 rfl) ?_
      refine lv_lmul hx hb dX3_joined_277 ?_
      exact rL X hI hr (g_1 hm) hpm dX3_joined_278
    · have hm := g_f c38 hm
      refine lv_ldc2 hx hb X.2.2.2.1 (X.2.2.2.2.1 _ kcX3_42) dX3_joined_269 ?_
      refine lv_goto (tgt := 278) hx hb dX3_joined_272 (by decide) ?_
      exact rL X hI hr (g_1 hm) hpm dX3_joined_278
def fX3_joined  (x0 : Int32) (x1 : Int64) (x3 : Int64) (m : Mem) : Option Int64 := if x0 = (11 : Int32) then (if (lg_cmp x1 (0 : Int64)) = 0 then (if (lg_cmp x3 (0 : Int64)) = 0 then (some (0 : Int64)) else (some (1 : Int64))) else (some (1 : Int64))) else (if x0 = (12 : Int32) then (if (lg_cmp x1 (0 : Int64)) = 0 then (some (0 : Int64)) else (if (lg_cmp x3 (0 : Int64)) = 0 then (some (0 : Int64)) else (some (1 : Int64)))) else (if x0 = (13 : Int32) then (some (-9223372036854775808 : Int64)) else (if x0 = (14 : Int32) then (some (-9223372036854775808 : Int64)) else (if x0 = (15 : Int32) then (some (-9223372036854775808 : Int64)) else (if x0 = (16 : Int32) then (some (-9223372036854775808 : Int64)) else (if x0 = (17 : Int32) then (some (-9223372036854775808 : Int64)) else (if x0 = (18 : Int32) then (some (-9223372036854775808 : Int64)) else (if x0 = (19 : Int32) then (some (-9223372036854775808 : Int64)) else (if x0 = (20 : Int32) then (some (-9223372036854775808 : Int64)) else (if x0 = (21 : Int32) then (some (-9223372036854775808 : Int64)) else (if x0 = (22 : Int32) then (some (-9223372036854775808 : Int64)) else (if x0 = (23 : Int32) then (some (-9223372036854775808 : Int64)) else (if x0 = (24 : Int32) then (some (-9223372036854775808 : Int64)) else (if x0 = (25 : Int32) then (if 0 ≤ (lg_cmp x1 x3) then (some (0 : Int64)) else (some (1 : Int64))) else (if x0 = (26 : Int32) then (if 0 < (lg_cmp x1 x3) then (some (0 : Int64)) else (some (1 : Int64))) else (if x0 = (27 : Int32) then (if (lg_cmp x1 x3) = 0 then (some (1 : Int64)) else (some (0 : Int64))) else (if x0 = (28 : Int32) then (if (lg_cmp x1 x3) = 0 then (some (0 : Int64)) else (some (1 : Int64))) else (if x0 = (29 : Int32) then (if (lg_cmp x1 x3) < 0 then (some (0 : Int64)) else (some (1 : Int64))) else (if x0 = (30 : Int32) then (if (lg_cmp x1 x3) ≤ 0 then (some (0 : Int64)) else (some (1 : Int64))) else (if x0 = (31 : Int32) then (some (x1 + x3)) else (if x0 = (32 : Int32) then (some (x1 - x3)) else (if x0 = (33 : Int32) then (if (lg_cmp x1 (0 : Int64)) = 0 then (some (0 : Int64)) else (if 0 ≤ (lg_cmp x1 (0 : Int64)) then (fX3_joined_251 x1 x3 x1 (1000000000000 : Int64) m) else (fX3_joined_251 x1 x3 (-x1) (1000000000000 : Int64) m))) else (if x0 = (34 : Int32) then (if (lg_cmp x3 (0 : Int64)) = 0 then (some (-9223372036854775808 : Int64)) else (if x3 = 0 then none else (some (x1 / x3)))) else (some (-9223372036854775808 : Int64)))))))))))))))))))))))))
set_option maxHeartbeats 4000000 in
set_option maxRecDepth 100000 in
theorem ctX3_joined {l : Launch} {D : va_G} {ca : Nat → ClassId} {ad : Nat → Nat}  (x0 : Int32) (x1 : Int64) (x3 : Int64)  (hn : HNc ca) (m : Mem) (fin : Int64) (hm : fX3_joined x0 x1 x3 m = some fin) : CL l D ca ad yX3_joined cwX3_joined rmX3_joined [.int x0, .long x1, .long x3] m fin m := by
  refine start (by decide) (Nat.le_of_ble_eq_true rfl) ?_
  intro p e s mm args below meth c H locs ls X hI hr hl
  have X : CX p s mm args meth c cX3_joined 7 RX3 D ca ad (WA ca ad s.heap.size) := X
  have hx := X.1
  have hb := X.2.1
  have hl : lv_has ls 7 [(0, .int x0), (1, .long x1), (3, .long x3)] := hl
  have hm : (if x0 = (11 : Int32) then (if (lg_cmp x1 (0 : Int64)) = 0 then (if (lg_cmp x3 (0 : Int64)) = 0 then (some (0 : Int64)) else (some (1 : Int64))) else (some (1 : Int64))) else (if x0 = (12 : Int32) then (if (lg_cmp x1 (0 : Int64)) = 0 then (some (0 : Int64)) else (if (lg_cmp x3 (0 : Int64)) = 0 then (some (0 : Int64)) else (some (1 : Int64)))) else (if x0 = (13 : Int32) then (some (-9223372036854775808 : Int64)) else (if x0 = (14 : Int32) then (some (-9223372036854775808 : Int64)) else (if x0 = (15 : Int32) then (some (-9223372036854775808 : Int64)) else (if x0 = (16 : Int32) then (some (-9223372036854775808 : Int64)) else (if x0 = (17 : Int32) then (some (-9223372036854775808 : Int64)) else (if x0 = (18 : Int32) then (some (-9223372036854775808 : Int64)) else (if x0 = (19 : Int32) then (some (-9223372036854775808 : Int64)) else (if x0 = (20 : Int32) then (some (-9223372036854775808 : Int64)) else (if x0 = (21 : Int32) then (some (-9223372036854775808 : Int64)) else (if x0 = (22 : Int32) then (some (-9223372036854775808 : Int64)) else (if x0 = (23 : Int32) then (some (-9223372036854775808 : Int64)) else (if x0 = (24 : Int32) then (some (-9223372036854775808 : Int64)) else (if x0 = (25 : Int32) then (if 0 ≤ (lg_cmp x1 x3) then (some (0 : Int64)) else (some (1 : Int64))) else (if x0 = (26 : Int32) then (if 0 < (lg_cmp x1 x3) then (some (0 : Int64)) else (some (1 : Int64))) else (if x0 = (27 : Int32) then (if (lg_cmp x1 x3) = 0 then (some (1 : Int64)) else (some (0 : Int64))) else (if x0 = (28 : Int32) then (if (lg_cmp x1 x3) = 0 then (some (0 : Int64)) else (some (1 : Int64))) else (if x0 = (29 : Int32) then (if (lg_cmp x1 x3) < 0 then (some (0 : Int64)) else (some (1 : Int64))) else (if x0 = (30 : Int32) then (if (lg_cmp x1 x3) ≤ 0 then (some (0 : Int64)) else (some (1 : Int64))) else (if x0 = (31 : Int32) then (some (x1 + x3)) else (if x0 = (32 : Int32) then (some (x1 - x3)) else (if x0 = (33 : Int32) then (if (lg_cmp x1 (0 : Int64)) = 0 then (some (0 : Int64)) else (if 0 ≤ (lg_cmp x1 (0 : Int64)) then (fX3_joined_251 x1 x3 x1 (1000000000000 : Int64) m) else (fX3_joined_251 x1 x3 (-x1) (1000000000000 : Int64) m))) else (if x0 = (34 : Int32) then (if (lg_cmp x3 (0 : Int64)) = 0 then (some (-9223372036854775808 : Int64)) else (if x3 = 0 then none else (some (x1 / x3)))) else (some (-9223372036854775808 : Int64)))))))))))))))))))))))))) = some fin := hm
  have hpm : m = m := rfl
  refine lv_iload_n hx hb dX3_joined_0 rfl (lv_at hl 0 rfl) ?_
  by_cases c1 : x0 = (11 : Int32)
  · have hm := g_t c1 hm
    refine lv_tableIn (tgt := 112) hx hb dX3_joined_1 (by rw [c1]; decide) (by rw [c1]; decide) (off := 111) (by rw [c1]; decide) (by decide) ?_
    refine lv_lload_n hx hb dX3_joined_112 rfl (lv_at hl 1 rfl) ?_
    refine lv_lconst (v := (0 : Int64)) hx hb dX3_joined_113 (by decide) ?_
    refine W.lcmp hx hb dX3_joined_114 ?_
    refine lv_if_ne (tgt := 124) hx hb dX3_joined_115 (by decide) (fun c2 => ?_) (fun c2 => ?_)
    · have hm := g_f c2 hm
      refine lv_lconst (v := (1 : Int64)) hx hb dX3_joined_124 (by decide) ?_
      refine lv_goto (tgt := 129) hx hb dX3_joined_125 (by decide) ?_
      exact rL X hI hr (g_1 hm) hpm dX3_joined_129
    · have hm := g_t c2 hm
      refine lv_lload_n hx hb dX3_joined_118 rfl (lv_at hl 2 rfl) ?_
      refine lv_lconst (v := (0 : Int64)) hx hb dX3_joined_119 (by decide) ?_
      refine W.lcmp hx hb dX3_joined_120 ?_
      refine lv_if_eq (tgt := 128) hx hb dX3_joined_121 (by decide) (fun c3 => ?_) (fun c3 => ?_)
      · have hm := g_t c3 hm
        refine lv_lconst (v := (0 : Int64)) hx hb dX3_joined_128 (by decide) ?_
        exact rL X hI hr (g_1 hm) hpm dX3_joined_129
      · have hm := g_f c3 hm
        refine lv_lconst (v := (1 : Int64)) hx hb dX3_joined_124 (by decide) ?_
        refine lv_goto (tgt := 129) hx hb dX3_joined_125 (by decide) ?_
        exact rL X hI hr (g_1 hm) hpm dX3_joined_129
  · have hm := g_f c1 hm
    by_cases c4 : x0 = (12 : Int32)
    · have hm := g_t c4 hm
      refine lv_tableIn (tgt := 130) hx hb dX3_joined_1 (by rw [c4]; decide) (by rw [c4]; decide) (off := 129) (by rw [c4]; decide) (by decide) ?_
      refine lv_lload_n hx hb dX3_joined_130 rfl (lv_at hl 1 rfl) ?_
      refine lv_lconst (v := (0 : Int64)) hx hb dX3_joined_131 (by decide) ?_
      refine W.lcmp hx hb dX3_joined_132 ?_
      refine lv_if_eq (tgt := 146) hx hb dX3_joined_133 (by decide) (fun c5 => ?_) (fun c5 => ?_)
      · have hm := g_t c5 hm
        refine lv_lconst (v := (0 : Int64)) hx hb dX3_joined_146 (by decide) ?_
        exact rL X hI hr (g_1 hm) hpm dX3_joined_147
      · have hm := g_f c5 hm
        refine lv_lload_n hx hb dX3_joined_136 rfl (lv_at hl 2 rfl) ?_
        refine lv_lconst (v := (0 : Int64)) hx hb dX3_joined_137 (by decide) ?_
        refine W.lcmp hx hb dX3_joined_138 ?_
        refine lv_if_eq (tgt := 146) hx hb dX3_joined_139 (by decide) (fun c6 => ?_) (fun c6 => ?_)
        · have hm := g_t c6 hm
          refine lv_lconst (v := (0 : Int64)) hx hb dX3_joined_146 (by decide) ?_
          exact rL X hI hr (g_1 hm) hpm dX3_joined_147
        · have hm := g_f c6 hm
          refine lv_lconst (v := (1 : Int64)) hx hb dX3_joined_142 (by decide) ?_
          refine lv_goto (tgt := 147) hx hb dX3_joined_143 (by decide) ?_
          exact rL X hI hr (g_1 hm) hpm dX3_joined_147
    · have hm := g_f c4 hm
      by_cases c7 : x0 = (13 : Int32)
      · have hm := g_t c7 hm
        refine lv_tableIn (tgt := 295) hx hb dX3_joined_1 (by rw [c7]; decide) (by rw [c7]; decide) (off := 294) (by rw [c7]; decide) (by decide) ?_
        refine lv_ldc2 hx hb X.2.2.2.1 (X.2.2.2.2.1 _ kcX3_42) dX3_joined_295 ?_
        exact rL X hI hr (g_1 hm) hpm dX3_joined_298
      · have hm := g_f c7 hm
        by_cases c8 : x0 = (14 : Int32)
        · have hm := g_t c8 hm
          refine lv_tableIn (tgt := 295) hx hb dX3_joined_1 (by rw [c8]; decide) (by rw [c8]; decide) (off := 294) (by rw [c8]; decide) (by decide) ?_
          refine lv_ldc2 hx hb X.2.2.2.1 (X.2.2.2.2.1 _ kcX3_42) dX3_joined_295 ?_
          exact rL X hI hr (g_1 hm) hpm dX3_joined_298
        · have hm := g_f c8 hm
          by_cases c9 : x0 = (15 : Int32)
          · have hm := g_t c9 hm
            refine lv_tableIn (tgt := 295) hx hb dX3_joined_1 (by rw [c9]; decide) (by rw [c9]; decide) (off := 294) (by rw [c9]; decide) (by decide) ?_
            refine lv_ldc2 hx hb X.2.2.2.1 (X.2.2.2.2.1 _ kcX3_42) dX3_joined_295 ?_
            exact rL X hI hr (g_1 hm) hpm dX3_joined_298
          · have hm := g_f c9 hm
            by_cases c10 : x0 = (16 : Int32)
            · have hm := g_t c10 hm
              refine lv_tableIn (tgt := 295) hx hb dX3_joined_1 (by rw [c10]; decide) (by rw [c10]; decide) (off := 294) (by rw [c10]; decide) (by decide) ?_
              refine lv_ldc2 hx hb X.2.2.2.1 (X.2.2.2.2.1 _ kcX3_42) dX3_joined_295 ?_
              exact rL X hI hr (g_1 hm) hpm dX3_joined_298
            · have hm := g_f c10 hm
              by_cases c11 : x0 = (17 : Int32)
              · have hm := g_t c11 hm
                refine lv_tableIn (tgt := 295) hx hb dX3_joined_1 (by rw [c11]; decide) (by rw [c11]; decide) (off := 294) (by rw [c11]; decide) (by decide) ?_
                refine lv_ldc2 hx hb X.2.2.2.1 (X.2.2.2.2.1 _ kcX3_42) dX3_joined_295 ?_
                exact rL X hI hr (g_1 hm) hpm dX3_joined_298
              · have hm := g_f c11 hm
                by_cases c12 : x0 = (18 : Int32)
                · have hm := g_t c12 hm
                  refine lv_tableIn (tgt := 295) hx hb dX3_joined_1 (by rw [c12]; decide) (by rw [c12]; decide) (off := 294) (by rw [c12]; decide) (by decide) ?_
                  refine lv_ldc2 hx hb X.2.2.2.1 (X.2.2.2.2.1 _ kcX3_42) dX3_joined_295 ?_
                  exact rL X hI hr (g_1 hm) hpm dX3_joined_298
                · have hm := g_f c12 hm
                  by_cases c13 : x0 = (19 : Int32)
                  · have hm := g_t c13 hm
                    refine lv_tableIn (tgt := 295) hx hb dX3_joined_1 (by rw [c13]; decide) (by rw [c13]; decide) (off := 294) (by rw [c13]; decide) (by decide) ?_
                    refine lv_ldc2 hx hb X.2.2.2.1 (X.2.2.2.2.1 _ kcX3_42) dX3_joined_295 ?_
                    exact rL X hI hr (g_1 hm) hpm dX3_joined_298
                  · have hm := g_f c13 hm
                    by_cases c14 : x0 = (20 : Int32)
                    · have hm := g_t c14 hm
                      refine lv_tableIn (tgt := 295) hx hb dX3_joined_1 (by rw [c14]; decide) (by rw [c14]; decide) (off := 294) (by rw [c14]; decide) (by decide) ?_
                      refine lv_ldc2 hx hb X.2.2.2.1 (X.2.2.2.2.1 _ kcX3_42) dX3_joined_295 ?_
                      exact rL X hI hr (g_1 hm) hpm dX3_joined_298
                    · have hm := g_f c14 hm
                      by_cases c15 : x0 = (21 : Int32)
                      · have hm := g_t c15 hm
                        refine lv_tableIn (tgt := 295) hx hb dX3_joined_1 (by rw [c15]; decide) (by rw [c15]; decide) (off := 294) (by rw [c15]; decide) (by decide) ?_
                        refine lv_ldc2 hx hb X.2.2.2.1 (X.2.2.2.2.1 _ kcX3_42) dX3_joined_295 ?_
                        exact rL X hI hr (g_1 hm) hpm dX3_joined_298
                      · have hm := g_f c15 hm
                        by_cases c16 : x0 = (22 : Int32)
                        · have hm := g_t c16 hm
                          refine lv_tableIn (tgt := 295) hx hb dX3_joined_1 (by rw [c16]; decide) (by rw [c16]; decide) (off := 294) (by rw [c16]; decide) (by decide) ?_
                          refine lv_ldc2 hx hb X.2.2.2.1 (X.2.2.2.2.1 _ kcX3_42) dX3_joined_295 ?_
                          exact rL X hI hr (g_1 hm) hpm dX3_joined_298
                        · have hm := g_f c16 hm
                          by_cases c17 : x0 = (23 : Int32)
                          · have hm := g_t c17 hm
                            refine lv_tableIn (tgt := 295) hx hb dX3_joined_1 (by rw [c17]; decide) (by rw [c17]; decide) (off := 294) (by rw [c17]; decide) (by decide) ?_
                            refine lv_ldc2 hx hb X.2.2.2.1 (X.2.2.2.2.1 _ kcX3_42) dX3_joined_295 ?_
                            exact rL X hI hr (g_1 hm) hpm dX3_joined_298
                          · have hm := g_f c17 hm
                            by_cases c18 : x0 = (24 : Int32)
                            · have hm := g_t c18 hm
                              refine lv_tableIn (tgt := 295) hx hb dX3_joined_1 (by rw [c18]; decide) (by rw [c18]; decide) (off := 294) (by rw [c18]; decide) (by decide) ?_
                              refine lv_ldc2 hx hb X.2.2.2.1 (X.2.2.2.2.1 _ kcX3_42) dX3_joined_295 ?_
                              exact rL X hI hr (g_1 hm) hpm dX3_joined_298
                            · have hm := g_f c18 hm
                              by_cases c19 : x0 = (25 : Int32)
                              · have hm := g_t c19 hm
                                refine lv_tableIn (tgt := 148) hx hb dX3_joined_1 (by rw [c19]; decide) (by rw [c19]; decide) (off := 147) (by rw [c19]; decide) (by decide) ?_
                                refine lv_lload_n hx hb dX3_joined_148 rfl (lv_at hl 1 rfl) ?_
                                refine lv_lload_n hx hb dX3_joined_149 rfl (lv_at hl 2 rfl) ?_
                                refine W.lcmp hx hb dX3_joined_150 ?_
                                refine lv_if_ge (tgt := 158) hx hb dX3_joined_151 (by decide) (fun c20 => ?_) (fun c20 => ?_)
                                · have hm := g_t c20 hm
                                  refine lv_lconst (v := (0 : Int64)) hx hb dX3_joined_158 (by decide) ?_
                                  exact rL X hI hr (g_1 hm) hpm dX3_joined_159
                                · have hm := g_f c20 hm
                                  refine lv_lconst (v := (1 : Int64)) hx hb dX3_joined_154 (by decide) ?_
                                  refine lv_goto (tgt := 159) hx hb dX3_joined_155 (by decide) ?_
                                  exact rL X hI hr (g_1 hm) hpm dX3_joined_159
                              · have hm := g_f c19 hm
                                by_cases c21 : x0 = (26 : Int32)
                                · have hm := g_t c21 hm
                                  refine lv_tableIn (tgt := 160) hx hb dX3_joined_1 (by rw [c21]; decide) (by rw [c21]; decide) (off := 159) (by rw [c21]; decide) (by decide) ?_
                                  refine lv_lload_n hx hb dX3_joined_160 rfl (lv_at hl 1 rfl) ?_
                                  refine lv_lload_n hx hb dX3_joined_161 rfl (lv_at hl 2 rfl) ?_
                                  refine W.lcmp hx hb dX3_joined_162 ?_
                                  refine lv_if_gt (tgt := 170) hx hb dX3_joined_163 (by decide) (fun c22 => ?_) (fun c22 => ?_)
                                  · have hm := g_t c22 hm
                                    refine lv_lconst (v := (0 : Int64)) hx hb dX3_joined_170 (by decide) ?_
                                    exact rL X hI hr (g_1 hm) hpm dX3_joined_171
                                  · have hm := g_f c22 hm
                                    refine lv_lconst (v := (1 : Int64)) hx hb dX3_joined_166 (by decide) ?_
                                    refine lv_goto (tgt := 171) hx hb dX3_joined_167 (by decide) ?_
                                    exact rL X hI hr (g_1 hm) hpm dX3_joined_171
                                · have hm := g_f c21 hm
                                  by_cases c23 : x0 = (27 : Int32)
                                  · have hm := g_t c23 hm
                                    refine lv_tableIn (tgt := 172) hx hb dX3_joined_1 (by rw [c23]; decide) (by rw [c23]; decide) (off := 171) (by rw [c23]; decide) (by decide) ?_
                                    refine lv_lload_n hx hb dX3_joined_172 rfl (lv_at hl 1 rfl) ?_
                                    refine lv_lload_n hx hb dX3_joined_173 rfl (lv_at hl 2 rfl) ?_
                                    refine W.lcmp hx hb dX3_joined_174 ?_
                                    refine lv_if_ne (tgt := 182) hx hb dX3_joined_175 (by decide) (fun c24 => ?_) (fun c24 => ?_)
                                    · have hm := g_f c24 hm
                                      refine lv_lconst (v := (0 : Int64)) hx hb dX3_joined_182 (by decide) ?_
                                      exact rL X hI hr (g_1 hm) hpm dX3_joined_183
                                    · have hm := g_t c24 hm
                                      refine lv_lconst (v := (1 : Int64)) hx hb dX3_joined_178 (by decide) ?_
                                      refine lv_goto (tgt := 183) hx hb dX3_joined_179 (by decide) ?_
                                      exact rL X hI hr (g_1 hm) hpm dX3_joined_183
                                  · have hm := g_f c23 hm
                                    by_cases c25 : x0 = (28 : Int32)
                                    · have hm := g_t c25 hm
                                      refine lv_tableIn (tgt := 184) hx hb dX3_joined_1 (by rw [c25]; decide) (by rw [c25]; decide) (off := 183) (by rw [c25]; decide) (by decide) ?_
                                      refine lv_lload_n hx hb dX3_joined_184 rfl (lv_at hl 1 rfl) ?_
                                      refine lv_lload_n hx hb dX3_joined_185 rfl (lv_at hl 2 rfl) ?_
                                      refine W.lcmp hx hb dX3_joined_186 ?_
                                      refine lv_if_eq (tgt := 194) hx hb dX3_joined_187 (by decide) (fun c26 => ?_) (fun c26 => ?_)
                                      · have hm := g_t c26 hm
                                        refine lv_lconst (v := (0 : Int64)) hx hb dX3_joined_194 (by decide) ?_
                                        exact rL X hI hr (g_1 hm) hpm dX3_joined_195
                                      · have hm := g_f c26 hm
                                        refine lv_lconst (v := (1 : Int64)) hx hb dX3_joined_190 (by decide) ?_
                                        refine lv_goto (tgt := 195) hx hb dX3_joined_191 (by decide) ?_
                                        exact rL X hI hr (g_1 hm) hpm dX3_joined_195
                                    · have hm := g_f c25 hm
                                      by_cases c27 : x0 = (29 : Int32)
                                      · have hm := g_t c27 hm
                                        refine lv_tableIn (tgt := 196) hx hb dX3_joined_1 (by rw [c27]; decide) (by rw [c27]; decide) (off := 195) (by rw [c27]; decide) (by decide) ?_
                                        refine lv_lload_n hx hb dX3_joined_196 rfl (lv_at hl 1 rfl) ?_
                                        refine lv_lload_n hx hb dX3_joined_197 rfl (lv_at hl 2 rfl) ?_
                                        refine W.lcmp hx hb dX3_joined_198 ?_
                                        refine lv_if_lt (tgt := 206) hx hb dX3_joined_199 (by decide) (fun c28 => ?_) (fun c28 => ?_)
                                        · have hm := g_t c28 hm
                                          refine lv_lconst (v := (0 : Int64)) hx hb dX3_joined_206 (by decide) ?_
                                          exact rL X hI hr (g_1 hm) hpm dX3_joined_207
                                        · have hm := g_f c28 hm
                                          refine lv_lconst (v := (1 : Int64)) hx hb dX3_joined_202 (by decide) ?_
                                          refine lv_goto (tgt := 207) hx hb dX3_joined_203 (by decide) ?_
                                          exact rL X hI hr (g_1 hm) hpm dX3_joined_207
                                      · have hm := g_f c27 hm
                                        by_cases c29 : x0 = (30 : Int32)
                                        · have hm := g_t c29 hm
                                          refine lv_tableIn (tgt := 208) hx hb dX3_joined_1 (by rw [c29]; decide) (by rw [c29]; decide) (off := 207) (by rw [c29]; decide) (by decide) ?_
                                          refine lv_lload_n hx hb dX3_joined_208 rfl (lv_at hl 1 rfl) ?_
                                          refine lv_lload_n hx hb dX3_joined_209 rfl (lv_at hl 2 rfl) ?_
                                          refine W.lcmp hx hb dX3_joined_210 ?_
                                          refine lv_if_le (tgt := 218) hx hb dX3_joined_211 (by decide) (fun c30 => ?_) (fun c30 => ?_)
                                          · have hm := g_t c30 hm
                                            refine lv_lconst (v := (0 : Int64)) hx hb dX3_joined_218 (by decide) ?_
                                            exact rL X hI hr (g_1 hm) hpm dX3_joined_219
                                          · have hm := g_f c30 hm
                                            refine lv_lconst (v := (1 : Int64)) hx hb dX3_joined_214 (by decide) ?_
                                            refine lv_goto (tgt := 219) hx hb dX3_joined_215 (by decide) ?_
                                            exact rL X hI hr (g_1 hm) hpm dX3_joined_219
                                        · have hm := g_f c29 hm
                                          by_cases c31 : x0 = (31 : Int32)
                                          · have hm := g_t c31 hm
                                            refine lv_tableIn (tgt := 220) hx hb dX3_joined_1 (by rw [c31]; decide) (by rw [c31]; decide) (off := 219) (by rw [c31]; decide) (by decide) ?_
                                            refine lv_lload_n hx hb dX3_joined_220 rfl (lv_at hl 1 rfl) ?_
                                            refine lv_lload_n hx hb dX3_joined_221 rfl (lv_at hl 2 rfl) ?_
                                            refine lv_ladd hx hb dX3_joined_222 ?_
                                            exact rL X hI hr (g_1 hm) hpm dX3_joined_223
                                          · have hm := g_f c31 hm
                                            by_cases c32 : x0 = (32 : Int32)
                                            · have hm := g_t c32 hm
                                              refine lv_tableIn (tgt := 224) hx hb dX3_joined_1 (by rw [c32]; decide) (by rw [c32]; decide) (off := 223) (by rw [c32]; decide) (by decide) ?_
                                              refine lv_lload_n hx hb dX3_joined_224 rfl (lv_at hl 1 rfl) ?_
                                              refine lv_lload_n hx hb dX3_joined_225 rfl (lv_at hl 2 rfl) ?_
                                              refine lv_lsub hx hb dX3_joined_226 ?_
                                              exact rL X hI hr (g_1 hm) hpm dX3_joined_227
                                            · have hm := g_f c32 hm
                                              by_cases c33 : x0 = (33 : Int32)
                                              · have hm := g_t c33 hm
                                                refine lv_tableIn (tgt := 228) hx hb dX3_joined_1 (by rw [c33]; decide) (by rw [c33]; decide) (off := 227) (by rw [c33]; decide) (by decide) ?_
                                                refine lv_lload_n hx hb dX3_joined_228 rfl (lv_at hl 1 rfl) ?_
                                                refine lv_lconst (v := (0 : Int64)) hx hb dX3_joined_229 (by decide) ?_
                                                refine W.lcmp hx hb dX3_joined_230 ?_
                                                refine lv_if_ne (tgt := 236) hx hb dX3_joined_231 (by decide) (fun c34 => ?_) (fun c34 => ?_)
                                                · have hm := g_f c34 hm
                                                  refine lv_ldc2 hx hb X.2.2.2.1 (X.2.2.2.2.1 _ kcX3_50) dX3_joined_236 ?_
                                                  refine lv_lload_n hx hb dX3_joined_239 rfl (lv_at hl 1 rfl) ?_
                                                  refine lv_lconst (v := (0 : Int64)) hx hb dX3_joined_240 (by decide) ?_
                                                  refine W.lcmp hx hb dX3_joined_241 ?_
                                                  refine lv_if_ge (tgt := 250) hx hb dX3_joined_242 (by decide) (fun c35 => ?_) (fun c35 => ?_)
                                                  · have hm := g_t c35 hm
                                                    refine lv_lload_n hx hb dX3_joined_250 rfl (lv_at hl 1 rfl) ?_
                                                    exact tX3_joined_251  hn X hr fin m  x1 x3 x1 (1000000000000 : Int64) m H locs ls hI (lv_sub hl [1, 2] rfl) hm hpm
                                                  · have hm := g_f c35 hm
                                                    refine lv_lload_n hx hb dX3_joined_245 rfl (lv_at hl 1 rfl) ?_
                                                    refine lv_lneg hx hb dX3_joined_246 ?_
                                                    refine lv_goto (tgt := 251) hx hb dX3_joined_247 (by decide) ?_
                                                    exact tX3_joined_251  hn X hr fin m  x1 x3 (-x1) (1000000000000 : Int64) m H locs ls hI (lv_sub hl [1, 2] rfl) hm hpm
                                                · have hm := g_t c34 hm
                                                  refine lv_lconst (v := (0 : Int64)) hx hb dX3_joined_234 (by decide) ?_
                                                  exact rL X hI hr (g_1 hm) hpm dX3_joined_235
                                              · have hm := g_f c33 hm
                                                by_cases c39 : x0 = (34 : Int32)
                                                · have hm := g_t c39 hm
                                                  refine lv_tableIn (tgt := 279) hx hb dX3_joined_1 (by rw [c39]; decide) (by rw [c39]; decide) (off := 278) (by rw [c39]; decide) (by decide) ?_
                                                  refine lv_lload_n hx hb dX3_joined_279 rfl (lv_at hl 2 rfl) ?_
                                                  refine lv_lconst (v := (0 : Int64)) hx hb dX3_joined_280 (by decide) ?_
                                                  refine W.lcmp hx hb dX3_joined_281 ?_
                                                  refine lv_if_ne (tgt := 291) hx hb dX3_joined_282 (by decide) (fun c40 => ?_) (fun c40 => ?_)
                                                  · have hm := g_f c40 hm
                                                    refine lv_lload_n hx hb dX3_joined_291 rfl (lv_at hl 1 rfl) ?_
                                                    refine lv_lload_n hx hb dX3_joined_292 rfl (lv_at hl 2 rfl) ?_
                                                    obtain ⟨g41, hm⟩ := g_no hm
                                                    refine lv_ldiv hx hb dX3_joined_293 g41 ?_
                                                    exact rL X hI hr (g_1 hm) hpm dX3_joined_294
                                                  · have hm := g_t c40 hm
                                                    refine lv_ldc2 hx hb X.2.2.2.1 (X.2.2.2.2.1 _ kcX3_42) dX3_joined_285 ?_
                                                    refine lv_goto (tgt := 294) hx hb dX3_joined_288 (by decide) ?_
                                                    exact rL X hI hr (g_1 hm) hpm dX3_joined_294
                                                · have hm := g_f c39 hm
                                                  have ec1 := lv_neT c1 (a := 11) (by decide)
                                                  have ec4 := lv_neT c4 (a := 12) (by decide)
                                                  have ec7 := lv_neT c7 (a := 13) (by decide)
                                                  have ec8 := lv_neT c8 (a := 14) (by decide)
                                                  have ec9 := lv_neT c9 (a := 15) (by decide)
                                                  have ec10 := lv_neT c10 (a := 16) (by decide)
                                                  have ec11 := lv_neT c11 (a := 17) (by decide)
                                                  have ec12 := lv_neT c12 (a := 18) (by decide)
                                                  have ec13 := lv_neT c13 (a := 19) (by decide)
                                                  have ec14 := lv_neT c14 (a := 20) (by decide)
                                                  have ec15 := lv_neT c15 (a := 21) (by decide)
                                                  have ec16 := lv_neT c16 (a := 22) (by decide)
                                                  have ec17 := lv_neT c17 (a := 23) (by decide)
                                                  have ec18 := lv_neT c18 (a := 24) (by decide)
                                                  have ec19 := lv_neT c19 (a := 25) (by decide)
                                                  have ec21 := lv_neT c21 (a := 26) (by decide)
                                                  have ec23 := lv_neT c23 (a := 27) (by decide)
                                                  have ec25 := lv_neT c25 (a := 28) (by decide)
                                                  have ec27 := lv_neT c27 (a := 29) (by decide)
                                                  have ec29 := lv_neT c29 (a := 30) (by decide)
                                                  have ec31 := lv_neT c31 (a := 31) (by decide)
                                                  have ec32 := lv_neT c32 (a := 32) (by decide)
                                                  have ec33 := lv_neT c33 (a := 33) (by decide)
                                                  have ec39 := lv_neT c39 (a := 34) (by decide)
                                                  refine lv_tableOut (tgt := 295) hx hb dX3_joined_1 (by omega) (by decide) ?_
                                                  refine lv_ldc2 hx hb X.2.2.2.1 (X.2.2.2.2.1 _ kcX3_42) dX3_joined_295 ?_
                                                  exact rL X hI hr (g_1 hm) hpm dX3_joined_298
abbrev rmX3_worth : Room := { frames := 1, cells := 0, slots := 0, locals := 26 }
def fX3_worth_221 (N : Nat) (x0 : Nat) (x2 : Int32) (m : Mem) : Option (Int64 × Mem) := if x2 = (1 : Int32) then (some ((m.2.1 (x0 + 6) 0), m)) else (some ((-9223372036854775808 : Int64), m))
set_option maxHeartbeats 4000000 in
set_option maxRecDepth 100000 in
theorem tX3_worth_221 (N : Nat) {l : Launch} {D : va_G} {ca : Nat → ClassId} {ad : Nat → Nat} {p : Program} {e : Env} {s : State} {mm : MethodId} {args : Array Value} {below : List Frame} {meth : Method} {c : Code}  (hn : HNc ca) (X : CX p s mm args meth c cX3_worth 7 RX3 D ca ad (WA ca ad s.heap.size)) (hr : meth.sig.returnType = (some .long)) (fin : (Int64 × Mem))  : ∀ (x0 : Nat) (x2 : Int32) (m : Mem) (H : Heap) (locs : List Loc) (ls : Array Slot), ly ca x0 = (0, 3) → IW D ca ad (WA ca ad s.heap.size) s m H locs → lv_has ls 7 [(0, .ref (ad x0)), (2, .int x2)] → fX3_worth_221 N x0 x2 m = some fin → W p l e rmX3_worth s mm args below meth c H locs 0 0 (MQ below (QL D ca ad s.heap.size fin.1 fin.2) args s 0 0 (WA ca ad s.heap.size)) (F0 mm 221 ls []) := by
  have hx := X.1
  have hb := X.2.1
  intro x0 x2 m H locs ls hx0 hI hl hm
  have hm : (if x2 = (1 : Int32) then (some ((m.2.1 (x0 + 6) 0), m)) else (some ((-9223372036854775808 : Int64), m))) = some fin := hm
  refine lv_iload_n hx hb dX3_worth_221 rfl (lv_at hl 1 rfl) ?_
  refine lv_iconst (v := (1 : Int32)) hx hb dX3_worth_222 (by decide) ?_
  refine lv_icmp_ne (tgt := 235) hx hb dX3_worth_223 (by decide) (fun c5 => ?_) (fun c5 => ?_)
  · have hm := g_f c5 hm
    refine lv_ldc2 hx hb X.2.2.2.1 (X.2.2.2.2.1 _ kcX3_42) dX3_worth_235 ?_
    exact rL X hI hr (g_p hm).1 (g_p hm).2 dX3_worth_238
  · have hm := g_t c5 hm
    refine lv_aload_n hx hb dX3_worth_226 rfl (lv_at hl 0 rfl) ?_
    refine gR X hI fdX3_28 hx0 rf3_5 dX3_worth_227 ?_
    refine lv_iconst (v := (0 : Int32)) hx hb dX3_worth_230 (by decide) ?_
    refine aLc (j := 0) X hI (lf3_5 hn hx0) (by decide) (by decide) dX3_worth_231 ?_
    refine lv_goto (tgt := 238) hx hb dX3_worth_232 (by decide) ?_
    exact rL X hI hr (g_p hm).1 (g_p hm).2 dX3_worth_238
def fX3_worth_145 (N : Nat) (k21 : Nat → Int32 → Int32 → Int32 → Mem → Option (Int64 × Mem)) (x0 : Nat) (x1 : Int32) (x2 : Int32) (x3 : Int32) (x4 : Int32) (m : Mem) : Option (Int64 × Mem) := if x2 < (2 : Int32) then (some ((-9223372036854775808 : Int64), m)) else (if (x2 - (2 : Int32)) < 0 ∨ 64 ≤ (x2 - (2 : Int32)).toNatClampNeg then none else (if (x2 - (1 : Int32)) < 0 ∨ 64 ≤ (x2 - (1 : Int32)).toNatClampNeg then none else ((fX3_joined x4 (m.2.1 (x0 + 6) (x2 - (2 : Int32)).toNatClampNeg) (m.2.1 (x0 + 6) (x2 - (1 : Int32)).toNatClampNeg) m).bind (fun q15 => if 0 < (lg_cmp q15 (1000000000000 : Int64)) then (some ((-9223372036854775808 : Int64), m)) else (if 0 ≤ (lg_cmp q15 (-1000000000000 : Int64)) then (if ((x2 + (-1 : Int32)) - (1 : Int32)) < 0 ∨ 64 ≤ ((x2 + (-1 : Int32)) - (1 : Int32)).toNatClampNeg then none else (k21 x0 x1 (x2 + (-1 : Int32)) (x3 + (1 : Int32)) (mJ m (x0 + 6) ((x2 + (-1 : Int32)) - (1 : Int32)).toNatClampNeg q15))) else (some ((-9223372036854775808 : Int64), m)))))))
set_option maxHeartbeats 4000000 in
set_option maxRecDepth 100000 in
theorem tX3_worth_145 (N : Nat) {l : Launch} {D : va_G} {ca : Nat → ClassId} {ad : Nat → Nat} {p : Program} {e : Env} {s : State} {mm : MethodId} {args : Array Value} {below : List Frame} {meth : Method} {c : Code} {k21 : Nat → Int32 → Int32 → Int32 → Mem → Option (Int64 × Mem)} (hn : HNc ca) (X : CX p s mm args meth c cX3_worth 7 RX3 D ca ad (WA ca ad s.heap.size)) (hr : meth.sig.returnType = (some .long)) (fin : (Int64 × Mem)) (hk21 : ∀ (x0 : Nat) (x1 : Int32) (x2 : Int32) (x3 : Int32) (m : Mem) (H : Heap) (locs : List Loc) (ls : Array Slot), ly ca x0 = (0, 3) → IW D ca ad (WA ca ad s.heap.size) s m H locs → lv_has ls 7 [(0, .ref (ad x0)), (1, .int x1), (2, .int x2), (3, .int x3)] → k21 x0 x1 x2 x3 m = some fin → W p l e rmX3_worth s mm args below meth c H locs 0 0 (MQ below (QL D ca ad s.heap.size fin.1 fin.2) args s 0 0 (WA ca ad s.heap.size)) (F0 mm 21 ls [])) : ∀ (x0 : Nat) (x1 : Int32) (x2 : Int32) (x3 : Int32) (x4 : Int32) (m : Mem) (H : Heap) (locs : List Loc) (ls : Array Slot), ly ca x0 = (0, 3) → IW D ca ad (WA ca ad s.heap.size) s m H locs → lv_has ls 7 [(0, .ref (ad x0)), (1, .int x1), (2, .int x2), (3, .int x3), (4, .int x4)] → fX3_worth_145 N k21 x0 x1 x2 x3 x4 m = some fin → W p l e rmX3_worth s mm args below meth c H locs 0 0 (MQ below (QL D ca ad s.heap.size fin.1 fin.2) args s 0 0 (WA ca ad s.heap.size)) (F0 mm 145 ls []) := by
  have hx := X.1
  have hb := X.2.1
  intro x0 x1 x2 x3 x4 m H locs ls hx0 hI hl hm
  have hm : (if x2 < (2 : Int32) then (some ((-9223372036854775808 : Int64), m)) else (if (x2 - (2 : Int32)) < 0 ∨ 64 ≤ (x2 - (2 : Int32)).toNatClampNeg then none else (if (x2 - (1 : Int32)) < 0 ∨ 64 ≤ (x2 - (1 : Int32)).toNatClampNeg then none else ((fX3_joined x4 (m.2.1 (x0 + 6) (x2 - (2 : Int32)).toNatClampNeg) (m.2.1 (x0 + 6) (x2 - (1 : Int32)).toNatClampNeg) m).bind (fun q15 => if 0 < (lg_cmp q15 (1000000000000 : Int64)) then (some ((-9223372036854775808 : Int64), m)) else (if 0 ≤ (lg_cmp q15 (-1000000000000 : Int64)) then (if ((x2 + (-1 : Int32)) - (1 : Int32)) < 0 ∨ 64 ≤ ((x2 + (-1 : Int32)) - (1 : Int32)).toNatClampNeg then none else (k21 x0 x1 (x2 + (-1 : Int32)) (x3 + (1 : Int32)) (mJ m (x0 + 6) ((x2 + (-1 : Int32)) - (1 : Int32)).toNatClampNeg q15))) else (some ((-9223372036854775808 : Int64), m)))))))) = some fin := hm
  refine lv_iload_n hx hb dX3_worth_145 rfl (lv_at hl 2 rfl) ?_
  refine lv_iconst (v := (2 : Int32)) hx hb dX3_worth_146 (by decide) ?_
  refine lv_icmp_lt (tgt := 211) hx hb dX3_worth_147 (by decide) (fun c12 => ?_) (fun c12 => ?_)
  · have hm := g_t c12 hm
    refine lv_ldc2 hx hb X.2.2.2.1 (X.2.2.2.2.1 _ kcX3_42) dX3_worth_211 ?_
    exact rL X hI hr (g_p hm).1 (g_p hm).2 dX3_worth_214
  · have hm := g_f c12 hm
    refine lv_iload hx hb dX3_worth_150 (lv_at hl 4 rfl) ?_
    refine lv_aload_n hx hb dX3_worth_152 rfl (lv_at hl 0 rfl) ?_
    refine gR X hI fdX3_28 hx0 rf3_5 dX3_worth_153 ?_
    refine lv_iload_n hx hb dX3_worth_156 rfl (lv_at hl 2 rfl) ?_
    refine lv_iconst (v := (2 : Int32)) hx hb dX3_worth_157 (by decide) ?_
    refine lv_isub hx hb dX3_worth_158 ?_
    obtain ⟨g13, hm⟩ := g_no hm
    refine aL X hI (lf3_5 hn hx0) g13 dX3_worth_159 ?_
    refine lv_aload_n hx hb dX3_worth_160 rfl (lv_at hl 0 rfl) ?_
    refine gR X hI fdX3_28 hx0 rf3_5 dX3_worth_161 ?_
    refine lv_iload_n hx hb dX3_worth_164 rfl (lv_at hl 2 rfl) ?_
    refine lv_iconst (v := (1 : Int32)) hx hb dX3_worth_165 (by decide) ?_
    refine lv_isub hx hb dX3_worth_166 ?_
    obtain ⟨g14, hm⟩ := g_no hm
    refine aL X hI (lf3_5 hn hx0) g14 dX3_worth_167 ?_
    obtain ⟨q15, h16, hm⟩ := g_b hm
    refine backL X hI (runS X hI (ctX3_joined x4 (m.2.1 (x0 + 6) (x2 - (2 : Int32)).toNatClampNeg) (m.2.1 (x0 + 6) (x2 - (1 : Int32)).toNatClampNeg)  hn _ _ h16 _) msX3_46 ⟨rfl, rfl⟩ ⟨Nat.le_of_ble_eq_true rfl, Nat.le_of_ble_eq_true rfl⟩ rfl hl.1 rfl (Nat.le_of_ble_eq_true rfl) dX3_worth_168) (fun H locs hI => ?_)
    refine lv_lstore (lv' := [(5, .long q15), (0, .ref (ad x0)), (1, .int x1), (2, .int x2), (3, .int x3), (4, .int x4)]) hx hb dX3_worth_171 hl (by decide) rfl (fun ls hl => ?_)
    refine lv_lload hx hb dX3_worth_173 (lv_at hl 0 rfl) ?_
    refine lv_ldc2 hx hb X.2.2.2.1 (X.2.2.2.2.1 _ kcX3_50) dX3_worth_175 ?_
    refine W.lcmp hx hb dX3_worth_178 ?_
    refine lv_if_gt (tgt := 191) hx hb dX3_worth_179 (by decide) (fun c17 => ?_) (fun c17 => ?_)
    · have hm := g_t c17 hm
      refine lv_ldc2 hx hb X.2.2.2.1 (X.2.2.2.2.1 _ kcX3_42) dX3_worth_191 ?_
      exact rL X hI hr (g_p hm).1 (g_p hm).2 dX3_worth_194
    · have hm := g_f c17 hm
      refine lv_lload hx hb dX3_worth_182 (lv_at hl 0 rfl) ?_
      refine lv_ldc2 hx hb X.2.2.2.1 (X.2.2.2.2.1 _ kcX3_52) dX3_worth_184 ?_
      refine W.lcmp hx hb dX3_worth_187 ?_
      refine lv_if_ge (tgt := 195) hx hb dX3_worth_188 (by decide) (fun c18 => ?_) (fun c18 => ?_)
      · have hm := g_t c18 hm
        refine lv_iinc (v := (x2 + (-1 : Int32))) (lv' := [(2, .int (x2 + (-1 : Int32))), (5, .long q15), (0, .ref (ad x0)), (1, .int x1), (3, .int x3), (4, .int x4)]) hx hb dX3_worth_195 hl (k := 3) rfl rfl (by decide) rfl (fun ls hl => ?_)
        refine lv_aload_n hx hb dX3_worth_198 rfl (lv_at hl 2 rfl) ?_
        refine gR X hI fdX3_28 hx0 rf3_5 dX3_worth_199 ?_
        refine lv_iload_n hx hb dX3_worth_202 rfl (lv_at hl 0 rfl) ?_
        refine lv_iconst (v := (1 : Int32)) hx hb dX3_worth_203 (by decide) ?_
        refine lv_isub hx hb dX3_worth_204 ?_
        refine lv_lload hx hb dX3_worth_205 (lv_at hl 1 rfl) ?_
        obtain ⟨g19, hm⟩ := g_no hm
        refine sL X hI (lf3_5 hn hx0) g19 dX3_worth_207 (fun H locs hI => ?_)
        refine lv_goto (tgt := 215) hx hb dX3_worth_208 (by decide) ?_
        refine lv_iinc (v := (x3 + (1 : Int32))) (lv' := [(3, .int (x3 + (1 : Int32))), (2, .int (x2 + (-1 : Int32))), (5, .long q15), (0, .ref (ad x0)), (1, .int x1), (4, .int x4)]) hx hb dX3_worth_215 hl (k := 4) rfl rfl (by decide) rfl (fun ls hl => ?_)
        refine lv_goto (tgt := 21) hx hb dX3_worth_218 (by decide) ?_
        exact hk21 x0 x1 (x2 + (-1 : Int32)) (x3 + (1 : Int32)) (mJ m (x0 + 6) ((x2 + (-1 : Int32)) - (1 : Int32)).toNatClampNeg q15) H locs ls hx0 hI (lv_sub hl [3, 4, 1, 0] rfl) hm
      · have hm := g_f c18 hm
        refine lv_ldc2 hx hb X.2.2.2.1 (X.2.2.2.2.1 _ kcX3_42) dX3_worth_191 ?_
        exact rL X hI hr (g_p hm).1 (g_p hm).2 dX3_worth_194
def fX3_worth_104 (N : Nat) (k21 : Nat → Int32 → Int32 → Int32 → Mem → Option (Int64 × Mem)) (x0 : Nat) (x1 : Int32) (x2 : Int32) (x3 : Int32) (x4 : Int32) (m : Mem) : Option (Int64 × Mem) := if x4 = (13 : Int32) then (if x2 < (1 : Int32) then (fX3_worth_145 N k21 x0 x1 x2 x3 x4 m) else (if (x2 - (1 : Int32)) < 0 ∨ 64 ≤ (x2 - (1 : Int32)).toNatClampNeg then none else (if (lg_cmp (m.2.1 (x0 + 6) (x2 - (1 : Int32)).toNatClampNeg) (0 : Int64)) = 0 then (if (x2 - (1 : Int32)) < 0 ∨ 64 ≤ (x2 - (1 : Int32)).toNatClampNeg then none else (k21 x0 x1 x2 (x3 + (1 : Int32)) (mJ m (x0 + 6) (x2 - (1 : Int32)).toNatClampNeg (1 : Int64)))) else (if (x2 - (1 : Int32)) < 0 ∨ 64 ≤ (x2 - (1 : Int32)).toNatClampNeg then none else (k21 x0 x1 x2 (x3 + (1 : Int32)) (mJ m (x0 + 6) (x2 - (1 : Int32)).toNatClampNeg (0 : Int64))))))) else (fX3_worth_145 N k21 x0 x1 x2 x3 x4 m)
set_option maxHeartbeats 4000000 in
set_option maxRecDepth 100000 in
theorem tX3_worth_104 (N : Nat) {l : Launch} {D : va_G} {ca : Nat → ClassId} {ad : Nat → Nat} {p : Program} {e : Env} {s : State} {mm : MethodId} {args : Array Value} {below : List Frame} {meth : Method} {c : Code} {k21 : Nat → Int32 → Int32 → Int32 → Mem → Option (Int64 × Mem)} (hn : HNc ca) (X : CX p s mm args meth c cX3_worth 7 RX3 D ca ad (WA ca ad s.heap.size)) (hr : meth.sig.returnType = (some .long)) (fin : (Int64 × Mem)) (hk21 : ∀ (x0 : Nat) (x1 : Int32) (x2 : Int32) (x3 : Int32) (m : Mem) (H : Heap) (locs : List Loc) (ls : Array Slot), ly ca x0 = (0, 3) → IW D ca ad (WA ca ad s.heap.size) s m H locs → lv_has ls 7 [(0, .ref (ad x0)), (1, .int x1), (2, .int x2), (3, .int x3)] → k21 x0 x1 x2 x3 m = some fin → W p l e rmX3_worth s mm args below meth c H locs 0 0 (MQ below (QL D ca ad s.heap.size fin.1 fin.2) args s 0 0 (WA ca ad s.heap.size)) (F0 mm 21 ls [])) : ∀ (x0 : Nat) (x1 : Int32) (x2 : Int32) (x3 : Int32) (x4 : Int32) (m : Mem) (H : Heap) (locs : List Loc) (ls : Array Slot), ly ca x0 = (0, 3) → IW D ca ad (WA ca ad s.heap.size) s m H locs → lv_has ls 7 [(0, .ref (ad x0)), (1, .int x1), (2, .int x2), (3, .int x3), (4, .int x4)] → fX3_worth_104 N k21 x0 x1 x2 x3 x4 m = some fin → W p l e rmX3_worth s mm args below meth c H locs 0 0 (MQ below (QL D ca ad s.heap.size fin.1 fin.2) args s 0 0 (WA ca ad s.heap.size)) (F0 mm 104 ls []) := by
  have hx := X.1
  have hb := X.2.1
  intro x0 x1 x2 x3 x4 m H locs ls hx0 hI hl hm
  have hm : (if x4 = (13 : Int32) then (if x2 < (1 : Int32) then (fX3_worth_145 N k21 x0 x1 x2 x3 x4 m) else (if (x2 - (1 : Int32)) < 0 ∨ 64 ≤ (x2 - (1 : Int32)).toNatClampNeg then none else (if (lg_cmp (m.2.1 (x0 + 6) (x2 - (1 : Int32)).toNatClampNeg) (0 : Int64)) = 0 then (if (x2 - (1 : Int32)) < 0 ∨ 64 ≤ (x2 - (1 : Int32)).toNatClampNeg then none else (k21 x0 x1 x2 (x3 + (1 : Int32)) (mJ m (x0 + 6) (x2 - (1 : Int32)).toNatClampNeg (1 : Int64)))) else (if (x2 - (1 : Int32)) < 0 ∨ 64 ≤ (x2 - (1 : Int32)).toNatClampNeg then none else (k21 x0 x1 x2 (x3 + (1 : Int32)) (mJ m (x0 + 6) (x2 - (1 : Int32)).toNatClampNeg (0 : Int64))))))) else (fX3_worth_145 N k21 x0 x1 x2 x3 x4 m)) = some fin := hm
  refine lv_iload hx hb dX3_worth_104 (lv_at hl 4 rfl) ?_
  refine lv_bipush (v := (13 : Int32)) hx hb dX3_worth_106 (by decide) ?_
  refine lv_icmp_ne (tgt := 145) hx hb dX3_worth_108 (by decide) (fun c11 => ?_) (fun c11 => ?_)
  · have hm := g_f c11 hm
    exact tX3_worth_145 N hn X hr fin hk21 x0 x1 x2 x3 x4 m H locs ls hx0 hI (lv_sub hl [0, 1, 2, 3, 4] rfl) hm
  · have hm := g_t c11 hm
    refine lv_iload_n hx hb dX3_worth_111 rfl (lv_at hl 2 rfl) ?_
    refine lv_iconst (v := (1 : Int32)) hx hb dX3_worth_112 (by decide) ?_
    refine lv_icmp_lt (tgt := 145) hx hb dX3_worth_113 (by decide) (fun c20 => ?_) (fun c20 => ?_)
    · have hm := g_t c20 hm
      exact tX3_worth_145 N hn X hr fin hk21 x0 x1 x2 x3 x4 m H locs ls hx0 hI (lv_sub hl [0, 1, 2, 3, 4] rfl) hm
    · have hm := g_f c20 hm
      refine lv_aload_n hx hb dX3_worth_116 rfl (lv_at hl 0 rfl) ?_
      refine gR X hI fdX3_28 hx0 rf3_5 dX3_worth_117 ?_
      refine lv_iload_n hx hb dX3_worth_120 rfl (lv_at hl 2 rfl) ?_
      refine lv_iconst (v := (1 : Int32)) hx hb dX3_worth_121 (by decide) ?_
      refine lv_isub hx hb dX3_worth_122 ?_
      refine lv_aload_n hx hb dX3_worth_123 rfl (lv_at hl 0 rfl) ?_
      refine gR X hI fdX3_28 hx0 rf3_5 dX3_worth_124 ?_
      refine lv_iload_n hx hb dX3_worth_127 rfl (lv_at hl 2 rfl) ?_
      refine lv_iconst (v := (1 : Int32)) hx hb dX3_worth_128 (by decide) ?_
      refine lv_isub hx hb dX3_worth_129 ?_
      obtain ⟨g21, hm⟩ := g_no hm
      refine aL X hI (lf3_5 hn hx0) g21 dX3_worth_130 ?_
      refine lv_lconst (v := (0 : Int64)) hx hb dX3_worth_131 (by decide) ?_
      refine W.lcmp hx hb dX3_worth_132 ?_
      refine lv_if_ne (tgt := 140) hx hb dX3_worth_133 (by decide) (fun c22 => ?_) (fun c22 => ?_)
      · have hm := g_f c22 hm
        refine lv_lconst (v := (0 : Int64)) hx hb dX3_worth_140 (by decide) ?_
        obtain ⟨g23, hm⟩ := g_no hm
        refine sL X hI (lf3_5 hn hx0) g23 dX3_worth_141 (fun H locs hI => ?_)
        refine lv_goto (tgt := 215) hx hb dX3_worth_142 (by decide) ?_
        refine lv_iinc (v := (x3 + (1 : Int32))) (lv' := [(3, .int (x3 + (1 : Int32))), (0, .ref (ad x0)), (1, .int x1), (2, .int x2), (4, .int x4)]) hx hb dX3_worth_215 hl (k := 3) rfl rfl (by decide) rfl (fun ls hl => ?_)
        refine lv_goto (tgt := 21) hx hb dX3_worth_218 (by decide) ?_
        exact hk21 x0 x1 x2 (x3 + (1 : Int32)) (mJ m (x0 + 6) (x2 - (1 : Int32)).toNatClampNeg (0 : Int64)) H locs ls hx0 hI (lv_sub hl [1, 2, 3, 0] rfl) hm
      · have hm := g_t c22 hm
        refine lv_lconst (v := (1 : Int64)) hx hb dX3_worth_136 (by decide) ?_
        refine lv_goto (tgt := 141) hx hb dX3_worth_137 (by decide) ?_
        obtain ⟨g24, hm⟩ := g_no hm
        refine sL X hI (lf3_5 hn hx0) g24 dX3_worth_141 (fun H locs hI => ?_)
        refine lv_goto (tgt := 215) hx hb dX3_worth_142 (by decide) ?_
        refine lv_iinc (v := (x3 + (1 : Int32))) (lv' := [(3, .int (x3 + (1 : Int32))), (0, .ref (ad x0)), (1, .int x1), (2, .int x2), (4, .int x4)]) hx hb dX3_worth_215 hl (k := 3) rfl rfl (by decide) rfl (fun ls hl => ?_)
        refine lv_goto (tgt := 21) hx hb dX3_worth_218 (by decide) ?_
        exact hk21 x0 x1 x2 (x3 + (1 : Int32)) (mJ m (x0 + 6) (x2 - (1 : Int32)).toNatClampNeg (1 : Int64)) H locs ls hx0 hI (lv_sub hl [1, 2, 3, 0] rfl) hm
def fX3_worth_21 (N : Nat) (k221 : Nat → Int32 → Mem → Option (Int64 × Mem)) : Nat → Nat → Int32 → Int32 → Int32 → Mem → Option (Int64 × Mem)
  | 0, _, _, _, _, _ => none
  | n + 1, x0, x1, x2, x3, m => if x1 < 0 ∨ 3 ≤ x1.toNatClampNeg then none else (if (m.1 (x0 + 4) x1.toNatClampNeg) ≤ x3 then (k221 x0 x2 m) else (if (64 : Int32) ≤ x3 then (k221 x0 x2 m) else (if x3 < 0 ∨ 64 ≤ x3.toNatClampNeg then none else (if (m.1 (x0 + 1) x3.toNatClampNeg) < (14 : Int32) then (fX3_worth_104 N (fun x0 x1 x2 x3 m => fX3_worth_21 N k221 n x0 x1 x2 x3 m) x0 x1 x2 x3 (m.1 (x0 + 1) x3.toNatClampNeg) m) else (if (21 : Int32) < (m.1 (x0 + 1) x3.toNatClampNeg) then (fX3_worth_104 N (fun x0 x1 x2 x3 m => fX3_worth_21 N k221 n x0 x1 x2 x3 m) x0 x1 x2 x3 (m.1 (x0 + 1) x3.toNatClampNeg) m) else (if (64 : Int32) ≤ x2 then (fX3_worth_104 N (fun x0 x1 x2 x3 m => fX3_worth_21 N k221 n x0 x1 x2 x3 m) x0 x1 x2 x3 (m.1 (x0 + 1) x3.toNatClampNeg) m) else (if (m.1 (x0 + 1) x3.toNatClampNeg) = (21 : Int32) then (if x3 < 0 ∨ 64 ≤ x3.toNatClampNeg then none else (if x2 < 0 ∨ 64 ≤ x2.toNatClampNeg then none else (fX3_worth_21 N k221 n x0 x1 (x2 + (1 : Int32)) (x3 + (1 : Int32)) (mJ m (x0 + 6) x2.toNatClampNeg (m.1 (x0 + 2) x3.toNatClampNeg).toInt64)))) else (if ((m.1 (x0 + 1) x3.toNatClampNeg) - (14 : Int32)) < 0 ∨ 7 ≤ ((m.1 (x0 + 1) x3.toNatClampNeg) - (14 : Int32)).toNatClampNeg then none else (if x2 < 0 ∨ 64 ≤ x2.toNatClampNeg then none else (fX3_worth_21 N k221 n x0 x1 (x2 + (1 : Int32)) (x3 + (1 : Int32)) (mJ m (x0 + 6) x2.toNatClampNeg (m.2.1 (x0 + 5) ((m.1 (x0 + 1) x3.toNatClampNeg) - (14 : Int32)).toNatClampNeg))))))))))))
set_option maxHeartbeats 4000000 in
set_option maxRecDepth 100000 in
theorem tX3_worth_21 (N : Nat) {l : Launch} {D : va_G} {ca : Nat → ClassId} {ad : Nat → Nat} {p : Program} {e : Env} {s : State} {mm : MethodId} {args : Array Value} {below : List Frame} {meth : Method} {c : Code} {k221 : Nat → Int32 → Mem → Option (Int64 × Mem)} (hn : HNc ca) (X : CX p s mm args meth c cX3_worth 7 RX3 D ca ad (WA ca ad s.heap.size)) (hr : meth.sig.returnType = (some .long)) (fin : (Int64 × Mem)) (hk221 : ∀ (x0 : Nat) (x2 : Int32) (m : Mem) (H : Heap) (locs : List Loc) (ls : Array Slot), ly ca x0 = (0, 3) → IW D ca ad (WA ca ad s.heap.size) s m H locs → lv_has ls 7 [(0, .ref (ad x0)), (2, .int x2)] → k221 x0 x2 m = some fin → W p l e rmX3_worth s mm args below meth c H locs 0 0 (MQ below (QL D ca ad s.heap.size fin.1 fin.2) args s 0 0 (WA ca ad s.heap.size)) (F0 mm 221 ls [])) : ∀ (n : Nat) (x0 : Nat) (x1 : Int32) (x2 : Int32) (x3 : Int32) (m : Mem) (H : Heap) (locs : List Loc) (ls : Array Slot), ly ca x0 = (0, 3) → IW D ca ad (WA ca ad s.heap.size) s m H locs → lv_has ls 7 [(0, .ref (ad x0)), (1, .int x1), (2, .int x2), (3, .int x3)] → fX3_worth_21 N k221 n x0 x1 x2 x3 m = some fin → W p l e rmX3_worth s mm args below meth c H locs 0 0 (MQ below (QL D ca ad s.heap.size fin.1 fin.2) args s 0 0 (WA ca ad s.heap.size)) (F0 mm 21 ls []) := by
  have hx := X.1
  have hb := X.2.1
  intro n
  induction n with
  | zero => intro x0 x1 x2 x3 m H locs ls hx0 hI hl hm
            exact absurd hm (by intro q; cases q)
  | succ n ih =>
    intro x0 x1 x2 x3 m H locs ls hx0 hI hl hm
    have hm : (if x1 < 0 ∨ 3 ≤ x1.toNatClampNeg then none else (if (m.1 (x0 + 4) x1.toNatClampNeg) ≤ x3 then (k221 x0 x2 m) else (if (64 : Int32) ≤ x3 then (k221 x0 x2 m) else (if x3 < 0 ∨ 64 ≤ x3.toNatClampNeg then none else (if (m.1 (x0 + 1) x3.toNatClampNeg) < (14 : Int32) then (fX3_worth_104 N (fun x0 x1 x2 x3 m => fX3_worth_21 N k221 n x0 x1 x2 x3 m) x0 x1 x2 x3 (m.1 (x0 + 1) x3.toNatClampNeg) m) else (if (21 : Int32) < (m.1 (x0 + 1) x3.toNatClampNeg) then (fX3_worth_104 N (fun x0 x1 x2 x3 m => fX3_worth_21 N k221 n x0 x1 x2 x3 m) x0 x1 x2 x3 (m.1 (x0 + 1) x3.toNatClampNeg) m) else (if (64 : Int32) ≤ x2 then (fX3_worth_104 N (fun x0 x1 x2 x3 m => fX3_worth_21 N k221 n x0 x1 x2 x3 m) x0 x1 x2 x3 (m.1 (x0 + 1) x3.toNatClampNeg) m) else (if (m.1 (x0 + 1) x3.toNatClampNeg) = (21 : Int32) then (if x3 < 0 ∨ 64 ≤ x3.toNatClampNeg then none else (if x2 < 0 ∨ 64 ≤ x2.toNatClampNeg then none else (fX3_worth_21 N k221 n x0 x1 (x2 + (1 : Int32)) (x3 + (1 : Int32)) (mJ m (x0 + 6) x2.toNatClampNeg (m.1 (x0 + 2) x3.toNatClampNeg).toInt64)))) else (if ((m.1 (x0 + 1) x3.toNatClampNeg) - (14 : Int32)) < 0 ∨ 7 ≤ ((m.1 (x0 + 1) x3.toNatClampNeg) - (14 : Int32)).toNatClampNeg then none else (if x2 < 0 ∨ 64 ≤ x2.toNatClampNeg then none else (fX3_worth_21 N k221 n x0 x1 (x2 + (1 : Int32)) (x3 + (1 : Int32)) (mJ m (x0 + 6) x2.toNatClampNeg (m.2.1 (x0 + 5) ((m.1 (x0 + 1) x3.toNatClampNeg) - (14 : Int32)).toNatClampNeg))))))))))))) = some fin := hm
    refine lv_iload_n hx hb dX3_worth_21 rfl (lv_at hl 3 rfl) ?_
    refine lv_aload_n hx hb dX3_worth_22 rfl (lv_at hl 0 rfl) ?_
    refine gR X hI fdX3_21 hx0 rf3_3 dX3_worth_23 ?_
    refine lv_iload_n hx hb dX3_worth_26 rfl (lv_at hl 1 rfl) ?_
    obtain ⟨g6, hm⟩ := g_no hm
    refine aI X hI (lf3_3 hn hx0) g6 dX3_worth_27 ?_
    refine lv_icmp_ge (tgt := 221) hx hb dX3_worth_28 (by decide) (fun c7 => ?_) (fun c7 => ?_)
    · have hm := g_t c7 hm
      exact hk221 x0 x2 m H locs ls hx0 hI (lv_sub hl [0, 2] rfl) hm
    · have hm := g_f c7 hm
      refine lv_iload_n hx hb dX3_worth_31 rfl (lv_at hl 3 rfl) ?_
      refine lv_bipush (v := (64 : Int32)) hx hb dX3_worth_32 (by decide) ?_
      refine lv_icmp_ge (tgt := 221) hx hb dX3_worth_34 (by decide) (fun c8 => ?_) (fun c8 => ?_)
      · have hm := g_t c8 hm
        exact hk221 x0 x2 m H locs ls hx0 hI (lv_sub hl [0, 2] rfl) hm
      · have hm := g_f c8 hm
        refine lv_aload_n hx hb dX3_worth_37 rfl (lv_at hl 0 rfl) ?_
        refine gR X hI fdX3_11 hx0 rf3_0 dX3_worth_38 ?_
        refine lv_iload_n hx hb dX3_worth_41 rfl (lv_at hl 3 rfl) ?_
        obtain ⟨g9, hm⟩ := g_no hm
        refine aI X hI (lf3_0 hn hx0) g9 dX3_worth_42 ?_
        refine lv_istore (lv' := [(4, .int (m.1 (x0 + 1) x3.toNatClampNeg)), (0, .ref (ad x0)), (1, .int x1), (2, .int x2), (3, .int x3)]) hx hb dX3_worth_43 hl (by decide) rfl (fun ls hl => ?_)
        refine lv_iload hx hb dX3_worth_45 (lv_at hl 0 rfl) ?_
        refine lv_bipush (v := (14 : Int32)) hx hb dX3_worth_47 (by decide) ?_
        refine lv_icmp_lt (tgt := 104) hx hb dX3_worth_49 (by decide) (fun c10 => ?_) (fun c10 => ?_)
        · have hm := g_t c10 hm
          exact tX3_worth_104 N hn X hr fin ih x0 x1 x2 x3 (m.1 (x0 + 1) x3.toNatClampNeg) m H locs ls hx0 hI (lv_sub hl [1, 2, 3, 4, 0] rfl) hm
        · have hm := g_f c10 hm
          refine lv_iload hx hb dX3_worth_52 (lv_at hl 0 rfl) ?_
          refine lv_bipush (v := (21 : Int32)) hx hb dX3_worth_54 (by decide) ?_
          refine lv_icmp_gt (tgt := 104) hx hb dX3_worth_56 (by decide) (fun c25 => ?_) (fun c25 => ?_)
          · have hm := g_t c25 hm
            exact tX3_worth_104 N hn X hr fin ih x0 x1 x2 x3 (m.1 (x0 + 1) x3.toNatClampNeg) m H locs ls hx0 hI (lv_sub hl [1, 2, 3, 4, 0] rfl) hm
          · have hm := g_f c25 hm
            refine lv_iload_n hx hb dX3_worth_59 rfl (lv_at hl 3 rfl) ?_
            refine lv_bipush (v := (64 : Int32)) hx hb dX3_worth_60 (by decide) ?_
            refine lv_icmp_ge (tgt := 104) hx hb dX3_worth_62 (by decide) (fun c26 => ?_) (fun c26 => ?_)
            · have hm := g_t c26 hm
              exact tX3_worth_104 N hn X hr fin ih x0 x1 x2 x3 (m.1 (x0 + 1) x3.toNatClampNeg) m H locs ls hx0 hI (lv_sub hl [1, 2, 3, 4, 0] rfl) hm
            · have hm := g_f c26 hm
              refine lv_aload_n hx hb dX3_worth_65 rfl (lv_at hl 1 rfl) ?_
              refine gR X hI fdX3_28 hx0 rf3_5 dX3_worth_66 ?_
              refine lv_iload_n hx hb dX3_worth_69 rfl (lv_at hl 3 rfl) ?_
              refine lv_iload hx hb dX3_worth_70 (lv_at hl 0 rfl) ?_
              refine lv_bipush (v := (21 : Int32)) hx hb dX3_worth_72 (by decide) ?_
              refine lv_icmp_ne (tgt := 87) hx hb dX3_worth_74 (by decide) (fun c27 => ?_) (fun c27 => ?_)
              · have hm := g_f c27 hm
                refine lv_aload_n hx hb dX3_worth_87 rfl (lv_at hl 1 rfl) ?_
                refine gR X hI fdX3_24 hx0 rf3_4 dX3_worth_88 ?_
                refine lv_iload hx hb dX3_worth_91 (lv_at hl 0 rfl) ?_
                refine lv_bipush (v := (14 : Int32)) hx hb dX3_worth_93 (by decide) ?_
                refine lv_isub hx hb dX3_worth_95 ?_
                obtain ⟨g28, hm⟩ := g_no hm
                refine aL X hI (lf3_4 hn hx0) g28 dX3_worth_96 ?_
                obtain ⟨g29, hm⟩ := g_no hm
                refine sL X hI (lf3_5 hn hx0) g29 dX3_worth_97 (fun H locs hI => ?_)
                refine lv_iinc (v := (x2 + (1 : Int32))) (lv' := [(2, .int (x2 + (1 : Int32))), (4, .int (m.1 (x0 + 1) x3.toNatClampNeg)), (0, .ref (ad x0)), (1, .int x1), (3, .int x3)]) hx hb dX3_worth_98 hl (k := 3) rfl rfl (by decide) rfl (fun ls hl => ?_)
                refine lv_goto (tgt := 215) hx hb dX3_worth_101 (by decide) ?_
                refine lv_iinc (v := (x3 + (1 : Int32))) (lv' := [(3, .int (x3 + (1 : Int32))), (2, .int (x2 + (1 : Int32))), (4, .int (m.1 (x0 + 1) x3.toNatClampNeg)), (0, .ref (ad x0)), (1, .int x1)]) hx hb dX3_worth_215 hl (k := 4) rfl rfl (by decide) rfl (fun ls hl => ?_)
                refine lv_goto (tgt := 21) hx hb dX3_worth_218 (by decide) ?_
                exact ih x0 x1 (x2 + (1 : Int32)) (x3 + (1 : Int32)) (mJ m (x0 + 6) x2.toNatClampNeg (m.2.1 (x0 + 5) ((m.1 (x0 + 1) x3.toNatClampNeg) - (14 : Int32)).toNatClampNeg)) H locs ls hx0 hI (lv_sub hl [3, 4, 1, 0] rfl) hm
              · have hm := g_t c27 hm
                refine lv_aload_n hx hb dX3_worth_77 rfl (lv_at hl 1 rfl) ?_
                refine gR X hI fdX3_15 hx0 rf3_1 dX3_worth_78 ?_
                refine lv_iload_n hx hb dX3_worth_81 rfl (lv_at hl 4 rfl) ?_
                obtain ⟨g30, hm⟩ := g_no hm
                refine aI X hI (lf3_1 hn hx0) g30 dX3_worth_82 ?_
                refine lv_i2l hx hb dX3_worth_83 rfl ?_
                refine lv_goto (tgt := 97) hx hb dX3_worth_84 (by decide) ?_
                obtain ⟨g31, hm⟩ := g_no hm
                refine sL X hI (lf3_5 hn hx0) g31 dX3_worth_97 (fun H locs hI => ?_)
                refine lv_iinc (v := (x2 + (1 : Int32))) (lv' := [(2, .int (x2 + (1 : Int32))), (4, .int (m.1 (x0 + 1) x3.toNatClampNeg)), (0, .ref (ad x0)), (1, .int x1), (3, .int x3)]) hx hb dX3_worth_98 hl (k := 3) rfl rfl (by decide) rfl (fun ls hl => ?_)
                refine lv_goto (tgt := 215) hx hb dX3_worth_101 (by decide) ?_
                refine lv_iinc (v := (x3 + (1 : Int32))) (lv' := [(3, .int (x3 + (1 : Int32))), (2, .int (x2 + (1 : Int32))), (4, .int (m.1 (x0 + 1) x3.toNatClampNeg)), (0, .ref (ad x0)), (1, .int x1)]) hx hb dX3_worth_215 hl (k := 4) rfl rfl (by decide) rfl (fun ls hl => ?_)
                refine lv_goto (tgt := 21) hx hb dX3_worth_218 (by decide) ?_
                exact ih x0 x1 (x2 + (1 : Int32)) (x3 + (1 : Int32)) (mJ m (x0 + 6) x2.toNatClampNeg (m.1 (x0 + 2) x3.toNatClampNeg).toInt64) H locs ls hx0 hI (lv_sub hl [3, 4, 1, 0] rfl) hm
def fX3_worth (N : Nat) (x0 : Nat) (x1 : Int32) (m : Mem) : Option (Int64 × Mem) := (fX3_isTold x0 x1 m).bind (fun q1 => if q1 = 0 then (some ((-9223372036854775808 : Int64), m)) else (if x1 < 0 ∨ 3 ≤ x1.toNatClampNeg then none else (fX3_worth_21 N (fX3_worth_221 N) N x0 x1 (0 : Int32) (m.1 (x0 + 3) x1.toNatClampNeg) m)))
set_option maxHeartbeats 4000000 in
set_option maxRecDepth 100000 in
theorem ctX3_worth {l : Launch} {D : va_G} {ca : Nat → ClassId} {ad : Nat → Nat} (N : Nat) (x0 : Nat) (x1 : Int32) (hx0 : ly ca x0 = (0, 3)) (hn : HNc ca) (m : Mem) (fin : (Int64 × Mem)) (hm : fX3_worth N x0 x1 m = some fin) : CL l D ca ad yX3_worth cwX3_worth rmX3_worth [.ref (ad x0), .int x1] m fin.1 fin.2 := by
  refine start (by decide) (Nat.le_of_ble_eq_true rfl) ?_
  intro p e s mm args below meth c H locs ls X hI hr hl
  have X : CX p s mm args meth c cX3_worth 7 RX3 D ca ad (WA ca ad s.heap.size) := X
  have hx := X.1
  have hb := X.2.1
  have hl : lv_has ls 7 [(0, .ref (ad x0)), (1, .int x1)] := hl
  have hm : ((fX3_isTold x0 x1 m).bind (fun q1 => if q1 = 0 then (some ((-9223372036854775808 : Int64), m)) else (if x1 < 0 ∨ 3 ≤ x1.toNatClampNeg then none else (fX3_worth_21 N (fX3_worth_221 N) N x0 x1 (0 : Int32) (m.1 (x0 + 3) x1.toNatClampNeg) m)))) = some fin := hm
  refine lv_aload_n hx hb dX3_worth_0 rfl (lv_at hl 0 rfl) ?_
  refine lv_iload_n hx hb dX3_worth_1 rfl (lv_at hl 1 rfl) ?_
  obtain ⟨q1, h2, hm⟩ := g_b hm
  refine backI X hI (runV X hI (ctX3_isTold x0 x1 hx0 hn _ _ h2 _) mdX3_38 hx0 rfl ⟨rfl, rfl⟩ ⟨Nat.le_of_ble_eq_true rfl, Nat.le_of_ble_eq_true rfl⟩ rfl hl.1 rfl (Nat.le_of_ble_eq_true rfl) dX3_worth_2) (fun H locs hI => ?_)
  refine lv_if_ne (tgt := 12) hx hb dX3_worth_5 (by decide) (fun c3 => ?_) (fun c3 => ?_)
  · have hm := g_f c3 hm
    refine lv_iconst (v := (0 : Int32)) hx hb dX3_worth_12 (by decide) ?_
    refine lv_istore_n (lv' := [(2, .int (0 : Int32)), (0, .ref (ad x0)), (1, .int x1)]) hx hb dX3_worth_13 rfl hl (by decide) rfl (fun ls hl => ?_)
    refine lv_aload_n hx hb dX3_worth_14 rfl (lv_at hl 1 rfl) ?_
    refine gR X hI fdX3_18 hx0 rf3_2 dX3_worth_15 ?_
    refine lv_iload_n hx hb dX3_worth_18 rfl (lv_at hl 2 rfl) ?_
    obtain ⟨g4, hm⟩ := g_no hm
    refine aI X hI (lf3_2 hn hx0) g4 dX3_worth_19 ?_
    refine lv_istore_n (lv' := [(3, .int (m.1 (x0 + 3) x1.toNatClampNeg)), (2, .int (0 : Int32)), (0, .ref (ad x0)), (1, .int x1)]) hx hb dX3_worth_20 rfl hl (by decide) rfl (fun ls hl => ?_)
    exact tX3_worth_21 N hn X hr fin (tX3_worth_221 N hn X hr fin ) N x0 x1 (0 : Int32) (m.1 (x0 + 3) x1.toNatClampNeg) m H locs ls hx0 hI (lv_sub hl [2, 3, 1, 0] rfl) hm
  · have hm := g_t c3 hm
    refine lv_ldc2 hx hb X.2.2.2.1 (X.2.2.2.2.1 _ kcX3_42) dX3_worth_8 ?_
    exact rL X hI hr (g_p hm).1 (g_p hm).2 dX3_worth_11
abbrev rmX6_worthOf : Room := { frames := 2, cells := 0, slots := 0, locals := 52 }
def fX6_worthOf_153 (N : Nat) (x0 : Nat) (x1 : Int32) (x2 : Nat) (x7 : Nat) (y0 : Int64) (y1 : Int32) (y2 : Nat) (m : Mem) : Option (Int64 × Mem) := if y1 < 0 ∨ 7 ≤ y1.toNatClampNeg then none else ((fX3_worth N (x0 + 11) x1 (mJ (mJ m y2 y1.toNatClampNeg y0) x7 6 ((mJ m y2 y1.toNatClampNeg y0).1 x2 9).toInt64)).bind (fun q18 => some (q18.1, q18.2)))
set_option maxHeartbeats 4000000 in
set_option maxRecDepth 100000 in
theorem tX6_worthOf_153 (N : Nat) {l : Launch} {D : va_G} {ca : Nat → ClassId} {ad : Nat → Nat} {p : Program} {e : Env} {s : State} {mm : MethodId} {args : Array Value} {below : List Frame} {meth : Method} {c : Code}  (hn : HNc ca) (X : CX p s mm args meth c cX6_worthOf 8 RX6 D ca ad (WA ca ad s.heap.size)) (hr : meth.sig.returnType = (some .long)) (fin : (Int64 × Mem))  : ∀ (x0 : Nat) (x1 : Int32) (x2 : Nat) (x7 : Nat) (y0 : Int64) (y1 : Int32) (y2 : Nat) (m : Mem) (H : Heap) (locs : List Loc) (ls : Array Slot), ly ca x0 = (0, 6) → ly ca x2 = (0, 0) → ly ca x7 = (4, 7) → ly ca y2 = (4, 7) → IW D ca ad (WA ca ad s.heap.size) s m H locs → lv_has ls 8 [(0, .ref (ad x0)), (1, .int x1), (2, .ref (ad x2)), (7, .ref (ad x7))] → fX6_worthOf_153 N x0 x1 x2 x7 y0 y1 y2 m = some fin → W p l e rmX6_worthOf s mm args below meth c H locs 0 0 (MQ below (QL D ca ad s.heap.size fin.1 fin.2) args s 0 0 (WA ca ad s.heap.size)) (F0 mm 153 ls [.long y0, .int y1, .ref (ad y2)]) := by
  have hx := X.1
  have hb := X.2.1
  intro x0 x1 x2 x7 y0 y1 y2 m H locs ls hx0 hx2 hx7 hy2 hI hl hm
  have hm : (if y1 < 0 ∨ 7 ≤ y1.toNatClampNeg then none else ((fX3_worth N (x0 + 11) x1 (mJ (mJ m y2 y1.toNatClampNeg y0) x7 6 ((mJ m y2 y1.toNatClampNeg y0).1 x2 9).toInt64)).bind (fun q18 => some (q18.1, q18.2)))) = some fin := hm
  obtain ⟨g17, hm⟩ := g_no hm
  refine sL X hI hy2 g17 dX6_worthOf_153 (fun H locs hI => ?_)
  refine lv_aload hx hb dX6_worthOf_154 (lv_at hl 3 rfl) ?_
  refine lv_bipush (v := (6 : Int32)) hx hb dX6_worthOf_156 (by decide) ?_
  refine lv_aload_n hx hb dX6_worthOf_158 rfl (lv_at hl 2 rfl) ?_
  refine gI X hI fdX6_105 hx2 dX6_worthOf_159 ?_
  refine lv_i2l hx hb dX6_worthOf_162 rfl ?_
  refine sLc (j := 6) X hI hx7 (by decide) (by decide) dX6_worthOf_163 (fun H locs hI => ?_)
  refine lv_aload_n hx hb dX6_worthOf_164 rfl (lv_at hl 0 rfl) ?_
  refine gR X hI fdX6_35 hx0 rf6_5 dX6_worthOf_165 ?_
  refine lv_iload_n hx hb dX6_worthOf_168 rfl (lv_at hl 1 rfl) ?_
  obtain ⟨q18, h19, hm⟩ := g_b hm
  refine backL X hI (runV X hI (ctX3_worth N (x0 + 11) x1 (lf6_5 hn hx0) hn _ _ h19 _) mdX6_108 (lf6_5 hn hx0) rfl ⟨rfl, rfl⟩ ⟨Nat.le_of_ble_eq_true rfl, Nat.le_of_ble_eq_true rfl⟩ rfl hl.1 rfl (Nat.le_of_ble_eq_true rfl) dX6_worthOf_169) (fun H locs hI => ?_)
  exact rL X hI hr (g_p hm).1 (g_p hm).2 dX6_worthOf_172
def fX6_worthOf_125 (N : Nat) (x0 : Nat) (x1 : Int32) (x2 : Nat) (x4 : Int32) (x5 : Int32) (x6 : Int32) (x7 : Nat) (y0 : Int64) (y1 : Int32) (y2 : Nat) (m : Mem) : Option (Int64 × Mem) := if y1 < 0 ∨ 7 ≤ y1.toNatClampNeg then none else (if x4 < 0 ∨ 6 ≤ x4.toNatClampNeg then none else (if x6 = 0 then (fX6_worthOf_153 N x0 x1 x2 x7 (0 : Int64) (5 : Int32) x7 (mJ (mJ m y2 y1.toNatClampNeg y0) x7 4 ((mJ m y2 y1.toNatClampNeg y0).1 (x2 + 1) x4.toNatClampNeg).toInt64)) else (fX6_worthOf_153 N x0 x1 x2 x7 x5.toInt64 (5 : Int32) x7 (mJ (mJ m y2 y1.toNatClampNeg y0) x7 4 ((mJ m y2 y1.toNatClampNeg y0).1 (x2 + 1) x4.toNatClampNeg).toInt64))))
set_option maxHeartbeats 4000000 in
set_option maxRecDepth 100000 in
theorem tX6_worthOf_125 (N : Nat) {l : Launch} {D : va_G} {ca : Nat → ClassId} {ad : Nat → Nat} {p : Program} {e : Env} {s : State} {mm : MethodId} {args : Array Value} {below : List Frame} {meth : Method} {c : Code}  (hn : HNc ca) (X : CX p s mm args meth c cX6_worthOf 8 RX6 D ca ad (WA ca ad s.heap.size)) (hr : meth.sig.returnType = (some .long)) (fin : (Int64 × Mem))  : ∀ (x0 : Nat) (x1 : Int32) (x2 : Nat) (x4 : Int32) (x5 : Int32) (x6 : Int32) (x7 : Nat) (y0 : Int64) (y1 : Int32) (y2 : Nat) (m : Mem) (H : Heap) (locs : List Loc) (ls : Array Slot), ly ca x0 = (0, 6) → ly ca x2 = (0, 0) → ly ca x7 = (4, 7) → ly ca y2 = (4, 7) → IW D ca ad (WA ca ad s.heap.size) s m H locs → lv_has ls 8 [(0, .ref (ad x0)), (1, .int x1), (2, .ref (ad x2)), (4, .int x4), (5, .int x5), (6, .int x6), (7, .ref (ad x7))] → fX6_worthOf_125 N x0 x1 x2 x4 x5 x6 x7 y0 y1 y2 m = some fin → W p l e rmX6_worthOf s mm args below meth c H locs 0 0 (MQ below (QL D ca ad s.heap.size fin.1 fin.2) args s 0 0 (WA ca ad s.heap.size)) (F0 mm 125 ls [.long y0, .int y1, .ref (ad y2)]) := by
  have hx := X.1
  have hb := X.2.1
  intro x0 x1 x2 x4 x5 x6 x7 y0 y1 y2 m H locs ls hx0 hx2 hx7 hy2 hI hl hm
  have hm : (if y1 < 0 ∨ 7 ≤ y1.toNatClampNeg then none else (if x4 < 0 ∨ 6 ≤ x4.toNatClampNeg then none else (if x6 = 0 then (fX6_worthOf_153 N x0 x1 x2 x7 (0 : Int64) (5 : Int32) x7 (mJ (mJ m y2 y1.toNatClampNeg y0) x7 4 ((mJ m y2 y1.toNatClampNeg y0).1 (x2 + 1) x4.toNatClampNeg).toInt64)) else (fX6_worthOf_153 N x0 x1 x2 x7 x5.toInt64 (5 : Int32) x7 (mJ (mJ m y2 y1.toNatClampNeg y0) x7 4 ((mJ m y2 y1.toNatClampNeg y0).1 (x2 + 1) x4.toNatClampNeg).toInt64))))) = some fin := hm
  obtain ⟨g14, hm⟩ := g_no hm
  refine sL X hI hy2 g14 dX6_worthOf_125 (fun H locs hI => ?_)
  refine lv_aload hx hb dX6_worthOf_126 (lv_at hl 6 rfl) ?_
  refine lv_iconst (v := (4 : Int32)) hx hb dX6_worthOf_128 (by decide) ?_
  refine lv_aload_n hx hb dX6_worthOf_129 rfl (lv_at hl 2 rfl) ?_
  refine gR X hI fdX6_102 hx2 rf0_0 dX6_worthOf_130 ?_
  refine lv_iload hx hb dX6_worthOf_133 (lv_at hl 3 rfl) ?_
  obtain ⟨g15, hm⟩ := g_no hm
  refine aI X hI (lf0_0 hn hx2) g15 dX6_worthOf_135 ?_
  refine lv_i2l hx hb dX6_worthOf_136 rfl ?_
  refine sLc (j := 4) X hI hx7 (by decide) (by decide) dX6_worthOf_137 (fun H locs hI => ?_)
  refine lv_aload hx hb dX6_worthOf_138 (lv_at hl 6 rfl) ?_
  refine lv_iconst (v := (5 : Int32)) hx hb dX6_worthOf_140 (by decide) ?_
  refine lv_iload hx hb dX6_worthOf_141 (lv_at hl 5 rfl) ?_
  refine lv_if_eq (tgt := 152) hx hb dX6_worthOf_143 (by decide) (fun c16 => ?_) (fun c16 => ?_)
  · have hm := g_t c16 hm
    refine lv_lconst (v := (0 : Int64)) hx hb dX6_worthOf_152 (by decide) ?_
    exact tX6_worthOf_153 N hn X hr fin  x0 x1 x2 x7 (0 : Int64) (5 : Int32) x7 (mJ (mJ m y2 y1.toNatClampNeg y0) x7 4 ((mJ m y2 y1.toNatClampNeg y0).1 (x2 + 1) x4.toNatClampNeg).toInt64) H locs ls hx0 hx2 hx7 hx7 hI (lv_sub hl [0, 1, 2, 6] rfl) hm
  · have hm := g_f c16 hm
    refine lv_iload hx hb dX6_worthOf_146 (lv_at hl 4 rfl) ?_
    refine lv_i2l hx hb dX6_worthOf_148 rfl ?_
    refine lv_goto (tgt := 153) hx hb dX6_worthOf_149 (by decide) ?_
    exact tX6_worthOf_153 N hn X hr fin  x0 x1 x2 x7 x5.toInt64 (5 : Int32) x7 (mJ (mJ m y2 y1.toNatClampNeg y0) x7 4 ((mJ m y2 y1.toNatClampNeg y0).1 (x2 + 1) x4.toNatClampNeg).toInt64) H locs ls hx0 hx2 hx7 hx7 hI (lv_sub hl [0, 1, 2, 6] rfl) hm
def fX6_worthOf_105 (N : Nat) (x0 : Nat) (x1 : Int32) (x2 : Nat) (x3 : Int32) (x4 : Int32) (x5 : Int32) (x6 : Int32) (x7 : Nat) (y0 : Int64) (y1 : Int32) (y2 : Nat) (m : Mem) : Option (Int64 × Mem) := if y1 < 0 ∨ 7 ≤ y1.toNatClampNeg then none else (if x6 = 0 then (fX6_worthOf_125 N x0 x1 x2 x4 x5 x6 x7 (0 : Int64) (3 : Int32) x7 (mJ m y2 y1.toNatClampNeg y0)) else (if x3 < 0 ∨ 6 ≤ x3.toNatClampNeg then none else (fX6_worthOf_125 N x0 x1 x2 x4 x5 x6 x7 ((mJ m y2 y1.toNatClampNeg y0).1 (x2 + 6) x3.toNatClampNeg).toInt64 (3 : Int32) x7 (mJ m y2 y1.toNatClampNeg y0))))
set_option maxHeartbeats 4000000 in
set_option maxRecDepth 100000 in
theorem tX6_worthOf_105 (N : Nat) {l : Launch} {D : va_G} {ca : Nat → ClassId} {ad : Nat → Nat} {p : Program} {e : Env} {s : State} {mm : MethodId} {args : Array Value} {below : List Frame} {meth : Method} {c : Code}  (hn : HNc ca) (X : CX p s mm args meth c cX6_worthOf 8 RX6 D ca ad (WA ca ad s.heap.size)) (hr : meth.sig.returnType = (some .long)) (fin : (Int64 × Mem))  : ∀ (x0 : Nat) (x1 : Int32) (x2 : Nat) (x3 : Int32) (x4 : Int32) (x5 : Int32) (x6 : Int32) (x7 : Nat) (y0 : Int64) (y1 : Int32) (y2 : Nat) (m : Mem) (H : Heap) (locs : List Loc) (ls : Array Slot), ly ca x0 = (0, 6) → ly ca x2 = (0, 0) → ly ca x7 = (4, 7) → ly ca y2 = (4, 7) → IW D ca ad (WA ca ad s.heap.size) s m H locs → lv_has ls 8 [(0, .ref (ad x0)), (1, .int x1), (2, .ref (ad x2)), (3, .int x3), (4, .int x4), (5, .int x5), (6, .int x6), (7, .ref (ad x7))] → fX6_worthOf_105 N x0 x1 x2 x3 x4 x5 x6 x7 y0 y1 y2 m = some fin → W p l e rmX6_worthOf s mm args below meth c H locs 0 0 (MQ below (QL D ca ad s.heap.size fin.1 fin.2) args s 0 0 (WA ca ad s.heap.size)) (F0 mm 105 ls [.long y0, .int y1, .ref (ad y2)]) := by
  have hx := X.1
  have hb := X.2.1
  intro x0 x1 x2 x3 x4 x5 x6 x7 y0 y1 y2 m H locs ls hx0 hx2 hx7 hy2 hI hl hm
  have hm : (if y1 < 0 ∨ 7 ≤ y1.toNatClampNeg then none else (if x6 = 0 then (fX6_worthOf_125 N x0 x1 x2 x4 x5 x6 x7 (0 : Int64) (3 : Int32) x7 (mJ m y2 y1.toNatClampNeg y0)) else (if x3 < 0 ∨ 6 ≤ x3.toNatClampNeg then none else (fX6_worthOf_125 N x0 x1 x2 x4 x5 x6 x7 ((mJ m y2 y1.toNatClampNeg y0).1 (x2 + 6) x3.toNatClampNeg).toInt64 (3 : Int32) x7 (mJ m y2 y1.toNatClampNeg y0))))) = some fin := hm
  obtain ⟨g12, hm⟩ := g_no hm
  refine sL X hI hy2 g12 dX6_worthOf_105 (fun H locs hI => ?_)
  refine lv_aload hx hb dX6_worthOf_106 (lv_at hl 7 rfl) ?_
  refine lv_iconst (v := (3 : Int32)) hx hb dX6_worthOf_108 (by decide) ?_
  refine lv_iload hx hb dX6_worthOf_109 (lv_at hl 6 rfl) ?_
  refine lv_if_eq (tgt := 124) hx hb dX6_worthOf_111 (by decide) (fun c13 => ?_) (fun c13 => ?_)
  · have hm := g_t c13 hm
    refine lv_lconst (v := (0 : Int64)) hx hb dX6_worthOf_124 (by decide) ?_
    exact tX6_worthOf_125 N hn X hr fin  x0 x1 x2 x4 x5 x6 x7 (0 : Int64) (3 : Int32) x7 (mJ m y2 y1.toNatClampNeg y0) H locs ls hx0 hx2 hx7 hx7 hI (lv_sub hl [0, 1, 2, 4, 5, 6, 7] rfl) hm
  · have hm := g_f c13 hm
    refine lv_aload_n hx hb dX6_worthOf_114 rfl (lv_at hl 2 rfl) ?_
    refine gR X hI fdX6_99 hx2 rf0_5 dX6_worthOf_115 ?_
    refine lv_iload_n hx hb dX6_worthOf_118 rfl (lv_at hl 3 rfl) ?_
    obtain ⟨g20, hm⟩ := g_no hm
    refine aI X hI (lf0_5 hn hx2) g20 dX6_worthOf_119 ?_
    refine lv_i2l hx hb dX6_worthOf_120 rfl ?_
    refine lv_goto (tgt := 125) hx hb dX6_worthOf_121 (by decide) ?_
    exact tX6_worthOf_125 N hn X hr fin  x0 x1 x2 x4 x5 x6 x7 ((mJ m y2 y1.toNatClampNeg y0).1 (x2 + 6) x3.toNatClampNeg).toInt64 (3 : Int32) x7 (mJ m y2 y1.toNatClampNeg y0) H locs ls hx0 hx2 hx7 hx7 hI (lv_sub hl [0, 1, 2, 4, 5, 6, 7] rfl) hm
def fX6_worthOf_86 (N : Nat) (x0 : Nat) (x1 : Int32) (x2 : Nat) (x3 : Int32) (x4 : Int32) (x5 : Int32) (x6 : Int32) (x7 : Nat) (y0 : Int64) (y1 : Int32) (y2 : Nat) (m : Mem) : Option (Int64 × Mem) := if y1 < 0 ∨ 7 ≤ y1.toNatClampNeg then none else (if x6 = 0 then (fX6_worthOf_105 N x0 x1 x2 x3 x4 x5 x6 x7 (0 : Int64) (2 : Int32) x7 (mJ m y2 y1.toNatClampNeg y0)) else ((fX6_rankOf x0 x3 (mJ m y2 y1.toNatClampNeg y0)).bind (fun q21 => fX6_worthOf_105 N x0 x1 x2 x3 x4 x5 x6 x7 q21.toInt64 (2 : Int32) x7 (mJ m y2 y1.toNatClampNeg y0))))
set_option maxHeartbeats 4000000 in
set_option maxRecDepth 100000 in
theorem tX6_worthOf_86 (N : Nat) {l : Launch} {D : va_G} {ca : Nat → ClassId} {ad : Nat → Nat} {p : Program} {e : Env} {s : State} {mm : MethodId} {args : Array Value} {below : List Frame} {meth : Method} {c : Code}  (hn : HNc ca) (X : CX p s mm args meth c cX6_worthOf 8 RX6 D ca ad (WA ca ad s.heap.size)) (hr : meth.sig.returnType = (some .long)) (fin : (Int64 × Mem))  : ∀ (x0 : Nat) (x1 : Int32) (x2 : Nat) (x3 : Int32) (x4 : Int32) (x5 : Int32) (x6 : Int32) (x7 : Nat) (y0 : Int64) (y1 : Int32) (y2 : Nat) (m : Mem) (H : Heap) (locs : List Loc) (ls : Array Slot), ly ca x0 = (0, 6) → ly ca x2 = (0, 0) → ly ca x7 = (4, 7) → ly ca y2 = (4, 7) → IW D ca ad (WA ca ad s.heap.size) s m H locs → lv_has ls 8 [(0, .ref (ad x0)), (1, .int x1), (2, .ref (ad x2)), (3, .int x3), (4, .int x4), (5, .int x5), (6, .int x6), (7, .ref (ad x7))] → fX6_worthOf_86 N x0 x1 x2 x3 x4 x5 x6 x7 y0 y1 y2 m = some fin → W p l e rmX6_worthOf s mm args below meth c H locs 0 0 (MQ below (QL D ca ad s.heap.size fin.1 fin.2) args s 0 0 (WA ca ad s.heap.size)) (F0 mm 86 ls [.long y0, .int y1, .ref (ad y2)]) := by
  have hx := X.1
  have hb := X.2.1
  intro x0 x1 x2 x3 x4 x5 x6 x7 y0 y1 y2 m H locs ls hx0 hx2 hx7 hy2 hI hl hm
  have hm : (if y1 < 0 ∨ 7 ≤ y1.toNatClampNeg then none else (if x6 = 0 then (fX6_worthOf_105 N x0 x1 x2 x3 x4 x5 x6 x7 (0 : Int64) (2 : Int32) x7 (mJ m y2 y1.toNatClampNeg y0)) else ((fX6_rankOf x0 x3 (mJ m y2 y1.toNatClampNeg y0)).bind (fun q21 => fX6_worthOf_105 N x0 x1 x2 x3 x4 x5 x6 x7 q21.toInt64 (2 : Int32) x7 (mJ m y2 y1.toNatClampNeg y0))))) = some fin := hm
  obtain ⟨g10, hm⟩ := g_no hm
  refine sL X hI hy2 g10 dX6_worthOf_86 (fun H locs hI => ?_)
  refine lv_aload hx hb dX6_worthOf_87 (lv_at hl 7 rfl) ?_
  refine lv_iconst (v := (2 : Int32)) hx hb dX6_worthOf_89 (by decide) ?_
  refine lv_iload hx hb dX6_worthOf_90 (lv_at hl 6 rfl) ?_
  refine lv_if_eq (tgt := 104) hx hb dX6_worthOf_92 (by decide) (fun c11 => ?_) (fun c11 => ?_)
  · have hm := g_t c11 hm
    refine lv_lconst (v := (0 : Int64)) hx hb dX6_worthOf_104 (by decide) ?_
    exact tX6_worthOf_105 N hn X hr fin  x0 x1 x2 x3 x4 x5 x6 x7 (0 : Int64) (2 : Int32) x7 (mJ m y2 y1.toNatClampNeg y0) H locs ls hx0 hx2 hx7 hx7 hI (lv_sub hl [0, 1, 2, 3, 4, 5, 6, 7] rfl) hm
  · have hm := g_f c11 hm
    refine lv_aload_n hx hb dX6_worthOf_95 rfl (lv_at hl 0 rfl) ?_
    refine lv_iload_n hx hb dX6_worthOf_96 rfl (lv_at hl 3 rfl) ?_
    obtain ⟨q21, h22, hm⟩ := g_b hm
    refine backI X hI (runV X hI (ctX6_rankOf x0 x3 hx0 hn _ _ h22 _) mdX6_95 hx0 rfl ⟨rfl, rfl⟩ ⟨Nat.le_of_ble_eq_true rfl, Nat.le_of_ble_eq_true rfl⟩ rfl hl.1 rfl (Nat.le_of_ble_eq_true rfl) dX6_worthOf_97) (fun H locs hI => ?_)
    refine lv_i2l hx hb dX6_worthOf_100 rfl ?_
    refine lv_goto (tgt := 105) hx hb dX6_worthOf_101 (by decide) ?_
    exact tX6_worthOf_105 N hn X hr fin  x0 x1 x2 x3 x4 x5 x6 x7 q21.toInt64 (2 : Int32) x7 (mJ m y2 y1.toNatClampNeg y0) H locs ls hx0 hx2 hx7 hx7 hI (lv_sub hl [0, 1, 2, 3, 4, 5, 6, 7] rfl) hm
def fX6_worthOf_41 (N : Nat) (x0 : Nat) (x1 : Int32) (x2 : Nat) (x3 : Int32) (x4 : Int32) (x5 : Int32) (y0 : Int32) (m : Mem) : Option (Int64 × Mem) := if x4 < 0 ∨ 6 ≤ x4.toNatClampNeg then none else (if y0 = 0 then (fX6_worthOf_86 N x0 x1 x2 x3 x4 x5 y0 ((x0 + 11) + 5) (0 : Int64) (1 : Int32) ((x0 + 11) + 5) (mJ m ((x0 + 11) + 5) 0 ((m.1 (x2 + 2) x4.toNatClampNeg) / (10 : Int32)).toInt64)) else (if x3 < 0 ∨ 6 ≤ x3.toNatClampNeg then none else (fX6_worthOf_86 N x0 x1 x2 x3 x4 x5 y0 ((x0 + 11) + 5) ((mJ m ((x0 + 11) + 5) 0 ((m.1 (x2 + 2) x4.toNatClampNeg) / (10 : Int32)).toInt64).1 (x2 + 4) x3.toNatClampNeg).toInt64 (1 : Int32) ((x0 + 11) + 5) (mJ m ((x0 + 11) + 5) 0 ((m.1 (x2 + 2) x4.toNatClampNeg) / (10 : Int32)).toInt64))))
set_option maxHeartbeats 4000000 in
set_option maxRecDepth 100000 in
theorem tX6_worthOf_41 (N : Nat) {l : Launch} {D : va_G} {ca : Nat → ClassId} {ad : Nat → Nat} {p : Program} {e : Env} {s : State} {mm : MethodId} {args : Array Value} {below : List Frame} {meth : Method} {c : Code}  (hn : HNc ca) (X : CX p s mm args meth c cX6_worthOf 8 RX6 D ca ad (WA ca ad s.heap.size)) (hr : meth.sig.returnType = (some .long)) (fin : (Int64 × Mem))  : ∀ (x0 : Nat) (x1 : Int32) (x2 : Nat) (x3 : Int32) (x4 : Int32) (x5 : Int32) (y0 : Int32) (m : Mem) (H : Heap) (locs : List Loc) (ls : Array Slot), ly ca x0 = (0, 6) → ly ca x2 = (0, 0) → IW D ca ad (WA ca ad s.heap.size) s m H locs → lv_has ls 8 [(0, .ref (ad x0)), (1, .int x1), (2, .ref (ad x2)), (3, .int x3), (4, .int x4), (5, .int x5)] → fX6_worthOf_41 N x0 x1 x2 x3 x4 x5 y0 m = some fin → W p l e rmX6_worthOf s mm args below meth c H locs 0 0 (MQ below (QL D ca ad s.heap.size fin.1 fin.2) args s 0 0 (WA ca ad s.heap.size)) (F0 mm 41 ls [.int y0]) := by
  have hx := X.1
  have hb := X.2.1
  intro x0 x1 x2 x3 x4 x5 y0 m H locs ls hx0 hx2 hI hl hm
  have hm : (if x4 < 0 ∨ 6 ≤ x4.toNatClampNeg then none else (if y0 = 0 then (fX6_worthOf_86 N x0 x1 x2 x3 x4 x5 y0 ((x0 + 11) + 5) (0 : Int64) (1 : Int32) ((x0 + 11) + 5) (mJ m ((x0 + 11) + 5) 0 ((m.1 (x2 + 2) x4.toNatClampNeg) / (10 : Int32)).toInt64)) else (if x3 < 0 ∨ 6 ≤ x3.toNatClampNeg then none else (fX6_worthOf_86 N x0 x1 x2 x3 x4 x5 y0 ((x0 + 11) + 5) ((mJ m ((x0 + 11) + 5) 0 ((m.1 (x2 + 2) x4.toNatClampNeg) / (10 : Int32)).toInt64).1 (x2 + 4) x3.toNatClampNeg).toInt64 (1 : Int32) ((x0 + 11) + 5) (mJ m ((x0 + 11) + 5) 0 ((m.1 (x2 + 2) x4.toNatClampNeg) / (10 : Int32)).toInt64))))) = some fin := hm
  refine lv_istore (lv' := [(6, .int y0), (0, .ref (ad x0)), (1, .int x1), (2, .ref (ad x2)), (3, .int x3), (4, .int x4), (5, .int x5)]) hx hb dX6_worthOf_41 hl (by decide) rfl (fun ls hl => ?_)
  refine lv_aload_n hx hb dX6_worthOf_43 rfl (lv_at hl 1 rfl) ?_
  refine gR X hI fdX6_35 hx0 rf6_5 dX6_worthOf_44 ?_
  refine gR X hI fdX6_91 (lf6_5 hn hx0) rf3_4 dX6_worthOf_47 ?_
  refine lv_astore (lv' := [(7, .ref (ad ((x0 + 11) + 5))), (6, .int y0), (0, .ref (ad x0)), (1, .int x1), (2, .ref (ad x2)), (3, .int x3), (4, .int x4), (5, .int x5)]) hx hb dX6_worthOf_50 hl (by decide) rfl (fun ls hl => ?_)
  refine lv_aload hx hb dX6_worthOf_52 (lv_at hl 0 rfl) ?_
  refine lv_iconst (v := (0 : Int32)) hx hb dX6_worthOf_54 (by decide) ?_
  refine lv_aload_n hx hb dX6_worthOf_55 rfl (lv_at hl 4 rfl) ?_
  refine gR X hI fdX6_79 hx2 rf0_1 dX6_worthOf_56 ?_
  refine lv_iload hx hb dX6_worthOf_59 (lv_at hl 6 rfl) ?_
  obtain ⟨g8, hm⟩ := g_no hm
  refine aI X hI (lf0_1 hn hx2) g8 dX6_worthOf_61 ?_
  refine lv_bipush (v := (10 : Int32)) hx hb dX6_worthOf_62 (by decide) ?_
  refine lv_idiv hx hb dX6_worthOf_64 (by decide) ?_
  refine lv_i2l hx hb dX6_worthOf_65 rfl ?_
  refine sLc (j := 0) X hI (lf3_4 hn (lf6_5 hn hx0)) (by decide) (by decide) dX6_worthOf_66 (fun H locs hI => ?_)
  refine lv_aload hx hb dX6_worthOf_67 (lv_at hl 0 rfl) ?_
  refine lv_iconst (v := (1 : Int32)) hx hb dX6_worthOf_69 (by decide) ?_
  refine lv_iload hx hb dX6_worthOf_70 (lv_at hl 1 rfl) ?_
  refine lv_if_eq (tgt := 85) hx hb dX6_worthOf_72 (by decide) (fun c9 => ?_) (fun c9 => ?_)
  · have hm := g_t c9 hm
    refine lv_lconst (v := (0 : Int64)) hx hb dX6_worthOf_85 (by decide) ?_
    exact tX6_worthOf_86 N hn X hr fin  x0 x1 x2 x3 x4 x5 y0 ((x0 + 11) + 5) (0 : Int64) (1 : Int32) ((x0 + 11) + 5) (mJ m ((x0 + 11) + 5) 0 ((m.1 (x2 + 2) x4.toNatClampNeg) / (10 : Int32)).toInt64) H locs ls hx0 hx2 (lf3_4 hn (lf6_5 hn hx0)) (lf3_4 hn (lf6_5 hn hx0)) hI (lv_sub hl [2, 3, 4, 5, 6, 7, 1, 0] rfl) hm
  · have hm := g_f c9 hm
    refine lv_aload_n hx hb dX6_worthOf_75 rfl (lv_at hl 4 rfl) ?_
    refine gR X hI fdX6_85 hx2 rf0_3 dX6_worthOf_76 ?_
    refine lv_iload_n hx hb dX6_worthOf_79 rfl (lv_at hl 5 rfl) ?_
    obtain ⟨g23, hm⟩ := g_no hm
    refine aI X hI (lf0_3 hn hx2) g23 dX6_worthOf_80 ?_
    refine lv_i2l hx hb dX6_worthOf_81 rfl ?_
    refine lv_goto (tgt := 86) hx hb dX6_worthOf_82 (by decide) ?_
    exact tX6_worthOf_86 N hn X hr fin  x0 x1 x2 x3 x4 x5 y0 ((x0 + 11) + 5) ((mJ m ((x0 + 11) + 5) 0 ((m.1 (x2 + 2) x4.toNatClampNeg) / (10 : Int32)).toInt64).1 (x2 + 4) x3.toNatClampNeg).toInt64 (1 : Int32) ((x0 + 11) + 5) (mJ m ((x0 + 11) + 5) 0 ((m.1 (x2 + 2) x4.toNatClampNeg) / (10 : Int32)).toInt64) H locs ls hx0 hx2 (lf3_4 hn (lf6_5 hn hx0)) (lf3_4 hn (lf6_5 hn hx0)) hI (lv_sub hl [2, 3, 4, 5, 6, 7, 1, 0] rfl) hm
def fX6_worthOf_40 (N : Nat) (x0 : Nat) (x1 : Int32) (x2 : Nat) (x3 : Int32) (x4 : Int32) (x5 : Int32) (m : Mem) : Option (Int64 × Mem) := fX6_worthOf_41 N x0 x1 x2 x3 x4 x5 (0 : Int32) m
set_option maxHeartbeats 4000000 in
set_option maxRecDepth 100000 in
theorem tX6_worthOf_40 (N : Nat) {l : Launch} {D : va_G} {ca : Nat → ClassId} {ad : Nat → Nat} {p : Program} {e : Env} {s : State} {mm : MethodId} {args : Array Value} {below : List Frame} {meth : Method} {c : Code}  (hn : HNc ca) (X : CX p s mm args meth c cX6_worthOf 8 RX6 D ca ad (WA ca ad s.heap.size)) (hr : meth.sig.returnType = (some .long)) (fin : (Int64 × Mem))  : ∀ (x0 : Nat) (x1 : Int32) (x2 : Nat) (x3 : Int32) (x4 : Int32) (x5 : Int32) (m : Mem) (H : Heap) (locs : List Loc) (ls : Array Slot), ly ca x0 = (0, 6) → ly ca x2 = (0, 0) → IW D ca ad (WA ca ad s.heap.size) s m H locs → lv_has ls 8 [(0, .ref (ad x0)), (1, .int x1), (2, .ref (ad x2)), (3, .int x3), (4, .int x4), (5, .int x5)] → fX6_worthOf_40 N x0 x1 x2 x3 x4 x5 m = some fin → W p l e rmX6_worthOf s mm args below meth c H locs 0 0 (MQ below (QL D ca ad s.heap.size fin.1 fin.2) args s 0 0 (WA ca ad s.heap.size)) (F0 mm 40 ls []) := by
  have hx := X.1
  have hb := X.2.1
  intro x0 x1 x2 x3 x4 x5 m H locs ls hx0 hx2 hI hl hm
  have hm : (fX6_worthOf_41 N x0 x1 x2 x3 x4 x5 (0 : Int32) m) = some fin := hm
  refine lv_iconst (v := (0 : Int32)) hx hb dX6_worthOf_40 (by decide) ?_
  exact tX6_worthOf_41 N hn X hr fin  x0 x1 x2 x3 x4 x5 (0 : Int32) m H locs ls hx0 hx2 hI (lv_sub hl [0, 1, 2, 3, 4, 5] rfl) hm
def fX6_worthOf (N : Nat) (x0 : Nat) (x1 : Int32) (x2 : Nat) (x3 : Int32) (x4 : Int32) (x5 : Int32) (m : Mem) : Option (Int64 × Mem) := (fX3_isTold (x0 + 11) x1 m).bind (fun q1 => if q1 = 0 then (some ((-9223372036854775808 : Int64), m)) else ((fX6_hasTub x0 x4 m).bind (fun q4 => if q4 = 0 then (some ((-9223372036854775808 : Int64), m)) else (if x1 = 0 then (fX6_worthOf_40 N x0 x1 x2 x3 x4 x5 m) else ((fX6_hasKnight x0 x3 m).bind (fun q24 => if q24 = 0 then (fX6_worthOf_40 N x0 x1 x2 x3 x4 x5 m) else (fX6_worthOf_41 N x0 x1 x2 x3 x4 x5 (1 : Int32) m)))))))
set_option maxHeartbeats 4000000 in
set_option maxRecDepth 100000 in
theorem ctX6_worthOf {l : Launch} {D : va_G} {ca : Nat → ClassId} {ad : Nat → Nat} (N : Nat) (x0 : Nat) (x1 : Int32) (x2 : Nat) (x3 : Int32) (x4 : Int32) (x5 : Int32) (hx0 : ly ca x0 = (0, 6)) (hx2 : ly ca x2 = (0, 0)) (hn : HNc ca) (m : Mem) (fin : (Int64 × Mem)) (hm : fX6_worthOf N x0 x1 x2 x3 x4 x5 m = some fin) : CL l D ca ad yX6_worthOf cwX6_worthOf rmX6_worthOf [.ref (ad x0), .int x1, .ref (ad x2), .int x3, .int x4, .int x5] m fin.1 fin.2 := by
  refine start (by decide) (Nat.le_of_ble_eq_true rfl) ?_
  intro p e s mm args below meth c H locs ls X hI hr hl
  have X : CX p s mm args meth c cX6_worthOf 8 RX6 D ca ad (WA ca ad s.heap.size) := X
  have hx := X.1
  have hb := X.2.1
  have hl : lv_has ls 8 [(0, .ref (ad x0)), (1, .int x1), (2, .ref (ad x2)), (3, .int x3), (4, .int x4), (5, .int x5)] := hl
  have hm : ((fX3_isTold (x0 + 11) x1 m).bind (fun q1 => if q1 = 0 then (some ((-9223372036854775808 : Int64), m)) else ((fX6_hasTub x0 x4 m).bind (fun q4 => if q4 = 0 then (some ((-9223372036854775808 : Int64), m)) else (if x1 = 0 then (fX6_worthOf_40 N x0 x1 x2 x3 x4 x5 m) else ((fX6_hasKnight x0 x3 m).bind (fun q24 => if q24 = 0 then (fX6_worthOf_40 N x0 x1 x2 x3 x4 x5 m) else (fX6_worthOf_41 N x0 x1 x2 x3 x4 x5 (1 : Int32) m)))))))) = some fin := hm
  refine lv_aload_n hx hb dX6_worthOf_0 rfl (lv_at hl 0 rfl) ?_
  refine gR X hI fdX6_35 hx0 rf6_5 dX6_worthOf_1 ?_
  refine lv_iload_n hx hb dX6_worthOf_4 rfl (lv_at hl 1 rfl) ?_
  obtain ⟨q1, h2, hm⟩ := g_b hm
  refine backI X hI (runV X hI (ctX3_isTold (x0 + 11) x1 (lf6_5 hn hx0) hn _ _ h2 _) mdX6_88 (lf6_5 hn hx0) rfl ⟨rfl, rfl⟩ ⟨Nat.le_of_ble_eq_true rfl, Nat.le_of_ble_eq_true rfl⟩ rfl hl.1 rfl (Nat.le_of_ble_eq_true rfl) dX6_worthOf_5) (fun H locs hI => ?_)
  refine lv_if_eq (tgt := 20) hx hb dX6_worthOf_8 (by decide) (fun c3 => ?_) (fun c3 => ?_)
  · have hm := g_t c3 hm
    refine lv_ldc2 hx hb X.2.2.2.1 (X.2.2.2.2.1 _ kcX6_77) dX6_worthOf_20 ?_
    exact rL X hI hr (g_p hm).1 (g_p hm).2 dX6_worthOf_23
  · have hm := g_f c3 hm
    refine lv_aload_n hx hb dX6_worthOf_11 rfl (lv_at hl 0 rfl) ?_
    refine lv_iload hx hb dX6_worthOf_12 (lv_at hl 4 rfl) ?_
    obtain ⟨q4, h5, hm⟩ := g_b hm
    refine backI X hI (runV X hI (ctX6_hasTub x0 x4 hx0 hn _ _ h5 _) mdX6_70 hx0 rfl ⟨rfl, rfl⟩ ⟨Nat.le_of_ble_eq_true rfl, Nat.le_of_ble_eq_true rfl⟩ rfl hl.1 rfl (Nat.le_of_ble_eq_true rfl) dX6_worthOf_14) (fun H locs hI => ?_)
    refine lv_if_ne (tgt := 24) hx hb dX6_worthOf_17 (by decide) (fun c6 => ?_) (fun c6 => ?_)
    · have hm := g_f c6 hm
      refine lv_iload_n hx hb dX6_worthOf_24 rfl (lv_at hl 1 rfl) ?_
      refine lv_if_eq (tgt := 40) hx hb dX6_worthOf_25 (by decide) (fun c7 => ?_) (fun c7 => ?_)
      · have hm := g_t c7 hm
        exact tX6_worthOf_40 N hn X hr fin  x0 x1 x2 x3 x4 x5 m H locs ls hx0 hx2 hI (lv_sub hl [0, 1, 2, 3, 4, 5] rfl) hm
      · have hm := g_f c7 hm
        refine lv_aload_n hx hb dX6_worthOf_28 rfl (lv_at hl 0 rfl) ?_
        refine lv_iload_n hx hb dX6_worthOf_29 rfl (lv_at hl 3 rfl) ?_
        obtain ⟨q24, h25, hm⟩ := g_b hm
        refine backI X hI (runV X hI (ctX6_hasKnight x0 x3 hx0 hn _ _ h25 _) mdX6_66 hx0 rfl ⟨rfl, rfl⟩ ⟨Nat.le_of_ble_eq_true rfl, Nat.le_of_ble_eq_true rfl⟩ rfl hl.1 rfl (Nat.le_of_ble_eq_true rfl) dX6_worthOf_30) (fun H locs hI => ?_)
        refine lv_if_eq (tgt := 40) hx hb dX6_worthOf_33 (by decide) (fun c26 => ?_) (fun c26 => ?_)
        · have hm := g_t c26 hm
          exact tX6_worthOf_40 N hn X hr fin  x0 x1 x2 x3 x4 x5 m H locs ls hx0 hx2 hI (lv_sub hl [0, 1, 2, 3, 4, 5] rfl) hm
        · have hm := g_f c26 hm
          refine lv_iconst (v := (1 : Int32)) hx hb dX6_worthOf_36 (by decide) ?_
          refine lv_goto (tgt := 41) hx hb dX6_worthOf_37 (by decide) ?_
          exact tX6_worthOf_41 N hn X hr fin  x0 x1 x2 x3 x4 x5 (1 : Int32) m H locs ls hx0 hx2 hI (lv_sub hl [0, 1, 2, 3, 4, 5] rfl) hm
    · have hm := g_t c6 hm
      refine lv_ldc2 hx hb X.2.2.2.1 (X.2.2.2.2.1 _ kcX6_77) dX6_worthOf_20 ?_
      exact rL X hI hr (g_p hm).1 (g_p hm).2 dX6_worthOf_23
