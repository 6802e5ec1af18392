abbrev rmX12_thrown : Room := { frames := 0, cells := 0, slots := 0, locals := 0 }
abbrev cwX12_thrown : Cond := .code yX12_thrown cX12_thrown 1 (some .int)
theorem cmX12_thrown : cwX12_thrown ∈ BIG := (tb6 (List.mem_of_getElem? (i := 237) rfl) rfl)
def fX12_thrown   (m : Mem) : Option Int32 := some (m.1 99 0)
set_option maxHeartbeats 4000000 in
set_option maxRecDepth 100000 in
theorem ctX12_thrown {l : Launch} {D : va_G} {ca : Nat → ClassId} {ad : Nat → Nat}    (hn : HNr ca) (m : Mem) (fin : Int32) (hm : fX12_thrown  m = some fin) : CI l D ca ad yX12_thrown cwX12_thrown rmX12_thrown [.ref (ad 99)] m fin m := by
  refine start (by decide) (Nat.le_of_ble_eq_true rfl) ?_
  intro p e s mm args below meth c H locs ls X hI hr hl
  have X : CX p s mm args meth c cX12_thrown 1 RX12 D ca ad (WA ca ad s.heap.size) := X
  have hx := X.1
  have hb := X.2.1
  have hl : lv_has ls 1 [(0, .ref (ad 99))] := hl
  have hm : (some (m.1 99 0)) = some fin := hm
  have hpm : m = m := rfl
  refine lv_aload_n hx hb dX12_thrown_0 rfl (lv_at hl 0 rfl) ?_
  refine gI X hI fdX12_154 (la_99 hn) dX12_thrown_1 ?_
  exact rI X hI hr (g_1 hm) hpm dX12_thrown_4
abbrev rmX12_feed : Room := { frames := 0, cells := 0, slots := 0, locals := 0 }
abbrev cwX12_feed : Cond := .code yX12_feed cX12_feed 8 (some .int)
theorem cmX12_feed : cwX12_feed ∈ BIG := (tb7 (List.mem_of_getElem? (i := 1) rfl) rfl)
def fX12_feed_73 (N : Nat) (k20 : Int32 → Int32 → Int32 → Int32 → Int32 → Int32 → Mem → Option (Int32 × Mem)) (x1 : Int32) (x2 : Int32) (x3 : Int32) (x4 : Int32) (x5 : Int32) (x6 : Int32) (y0 : Int32) (m : Mem) : Option (Int32 × Mem) := if ((m.1 99 2) + x6) < 0 ∨ 700 ≤ ((m.1 99 2) + x6).toNatClampNeg then none else (k20 x1 x2 x3 x4 x5 (x6 + (1 : Int32)) (mI m 100 ((m.1 99 2) + x6).toNatClampNeg ((y0 >>> (((24 : Int32) - ((8 : Int32) * (jrem x6 (4 : Int32)))) &&& 31)) &&& (255 : Int32))))
set_option maxHeartbeats 4000000 in
set_option maxRecDepth 100000 in
theorem tX12_feed_73 (N : Nat) {l : Launch} {D : va_G} {ca : Nat → ClassId} {ad : Nat → Nat} {p : Program} {e : Env} {s : State} {mm : MethodId} {args : Array Value} {below : List Frame} {meth : Method} {c : Code} {k20 : Int32 → Int32 → Int32 → Int32 → Int32 → Int32 → Mem → Option (Int32 × Mem)} (hn : HNr ca) (X : CX p s mm args meth c cX12_feed 8 RX12 D ca ad (WA ca ad s.heap.size)) (hr : meth.sig.returnType = (some .int)) (fin : (Int32 × Mem)) (hk20 : ∀ (x1 : Int32) (x2 : Int32) (x3 : Int32) (x4 : Int32) (x5 : Int32) (x6 : Int32) (m : Mem) (H : Heap) (locs : List Loc) (ls : Array Slot), IW D ca ad (WA ca ad s.heap.size) s m H locs → lv_has ls 8 [(0, .ref (ad 99)), (1, .int x1), (2, .int x2), (3, .int x3), (4, .int x4), (5, .int x5), (6, .int x6)] → k20 x1 x2 x3 x4 x5 x6 m = some fin → W p l e rmX12_feed s mm args below meth c H locs 0 0 (MQ below (QI D ca ad s.heap.size fin.1 fin.2) args s 0 0 (WA ca ad s.heap.size)) (F0 mm 20 ls [])) : ∀ (x1 : Int32) (x2 : Int32) (x3 : Int32) (x4 : Int32) (x5 : Int32) (x6 : Int32) (y0 : Int32) (m : Mem) (H : Heap) (locs : List Loc) (ls : Array Slot), IW D ca ad (WA ca ad s.heap.size) s m H locs → lv_has ls 8 [(0, .ref (ad 99)), (1, .int x1), (2, .int x2), (3, .int x3), (4, .int x4), (5, .int x5), (6, .int x6)] → fX12_feed_73 N k20 x1 x2 x3 x4 x5 x6 y0 m = some fin → W p l e rmX12_feed s mm args below meth c H locs 0 0 (MQ below (QI D ca ad s.heap.size fin.1 fin.2) args s 0 0 (WA ca ad s.heap.size)) (F0 mm 73 ls [.int y0]) := by
  have hx := X.1
  have hb := X.2.1
  intro x1 x2 x3 x4 x5 x6 y0 m H locs ls hI hl hm
  have hm : (if ((m.1 99 2) + x6) < 0 ∨ 700 ≤ ((m.1 99 2) + x6).toNatClampNeg then none else (k20 x1 x2 x3 x4 x5 (x6 + (1 : Int32)) (mI m 100 ((m.1 99 2) + x6).toNatClampNeg ((y0 >>> (((24 : Int32) - ((8 : Int32) * (jrem x6 (4 : Int32)))) &&& 31)) &&& (255 : Int32))))) = some fin := hm
  refine lv_istore (lv' := [(7, .int y0), (0, .ref (ad 99)), (1, .int x1), (2, .int x2), (3, .int x3), (4, .int x4), (5, .int x5), (6, .int x6)]) hx hb dX12_feed_73 hl (by decide) rfl (fun ls hl => ?_)
  refine lv_aload_n hx hb dX12_feed_75 rfl (lv_at hl 1 rfl) ?_
  refine gR X hI fdX12_7 (la_99 hn) rf12_1 dX12_feed_76 ?_
  refine lv_aload_n hx hb dX12_feed_79 rfl (lv_at hl 1 rfl) ?_
  refine gI X hI fdX12_157 (la_99 hn) dX12_feed_80 ?_
  refine lv_iload hx hb dX12_feed_83 (lv_at hl 7 rfl) ?_
  refine lv_iadd hx hb dX12_feed_85 ?_
  refine lv_iload hx hb dX12_feed_86 (lv_at hl 0 rfl) ?_
  refine lv_bipush (v := (24 : Int32)) hx hb dX12_feed_88 (by decide) ?_
  refine lv_bipush (v := (8 : Int32)) hx hb dX12_feed_90 (by decide) ?_
  refine lv_iload hx hb dX12_feed_92 (lv_at hl 7 rfl) ?_
  refine lv_iconst (v := (4 : Int32)) hx hb dX12_feed_94 (by decide) ?_
  refine kRem hx hb dX12_feed_95 (by decide) ?_
  refine lv_imul hx hb dX12_feed_96 ?_
  refine lv_isub hx hb dX12_feed_97 ?_
  refine lv_ishr hx hb dX12_feed_98 ?_
  refine lv_sipush (v := (255 : Int32)) hx hb dX12_feed_99 (by decide) ?_
  refine lv_iand hx hb dX12_feed_102 ?_
  obtain ⟨g7, hm⟩ := g_no hm
  refine sI X hI (la_100 hn) g7 dX12_feed_103 (fun H locs hI => ?_)
  refine lv_iinc (v := (x6 + (1 : Int32))) (lv' := [(6, .int (x6 + (1 : Int32))), (7, .int y0), (0, .ref (ad 99)), (1, .int x1), (2, .int x2), (3, .int x3), (4, .int x4), (5, .int x5)]) hx hb dX12_feed_104 hl (k := 7) rfl rfl (by decide) rfl (fun ls hl => ?_)
  refine lv_goto (tgt := 20) hx hb dX12_feed_107 (by decide) ?_
  exact hk20 x1 x2 x3 x4 x5 (x6 + (1 : Int32)) (mI m 100 ((m.1 99 2) + x6).toNatClampNeg ((y0 >>> (((24 : Int32) - ((8 : Int32) * (jrem x6 (4 : Int32)))) &&& 31)) &&& (255 : Int32))) H locs ls hI (lv_sub hl [2, 3, 4, 5, 6, 7, 0] rfl) hm
def fX12_feed_20 (N : Nat) : Nat → Int32 → Int32 → Int32 → Int32 → Int32 → Int32 → Mem → Option (Int32 × Mem)
  | 0, _, _, _, _, _, _, _ => none
  | n + 1, x1, x2, x3, x4, x5, x6, m => if (20 : Int32) ≤ x6 then (some (((mI m 99 2 ((m.1 99 2) + (20 : Int32))).1 99 2), (mI m 99 2 ((m.1 99 2) + (20 : Int32))))) else (if (4 : Int32) ≤ x6 then (if (8 : Int32) ≤ x6 then (if (12 : Int32) ≤ x6 then (if (16 : Int32) ≤ x6 then (fX12_feed_73 N (fun x1 x2 x3 x4 x5 x6 m => fX12_feed_20 N n x1 x2 x3 x4 x5 x6 m) x1 x2 x3 x4 x5 x6 x5 m) else (fX12_feed_73 N (fun x1 x2 x3 x4 x5 x6 m => fX12_feed_20 N n x1 x2 x3 x4 x5 x6 m) x1 x2 x3 x4 x5 x6 x4 m)) else (fX12_feed_73 N (fun x1 x2 x3 x4 x5 x6 m => fX12_feed_20 N n x1 x2 x3 x4 x5 x6 m) x1 x2 x3 x4 x5 x6 x3 m)) else (fX12_feed_73 N (fun x1 x2 x3 x4 x5 x6 m => fX12_feed_20 N n x1 x2 x3 x4 x5 x6 m) x1 x2 x3 x4 x5 x6 x2 m)) else (fX12_feed_73 N (fun x1 x2 x3 x4 x5 x6 m => fX12_feed_20 N n x1 x2 x3 x4 x5 x6 m) x1 x2 x3 x4 x5 x6 x1 m))
set_option maxHeartbeats 4000000 in
set_option maxRecDepth 100000 in
theorem tX12_feed_20 (N : Nat) {l : Launch} {D : va_G} {ca : Nat → ClassId} {ad : Nat → Nat} {p : Program} {e : Env} {s : State} {mm : MethodId} {args : Array Value} {below : List Frame} {meth : Method} {c : Code}  (hn : HNr ca) (X : CX p s mm args meth c cX12_feed 8 RX12 D ca ad (WA ca ad s.heap.size)) (hr : meth.sig.returnType = (some .int)) (fin : (Int32 × Mem))  : ∀ (n : Nat) (x1 : Int32) (x2 : Int32) (x3 : Int32) (x4 : Int32) (x5 : Int32) (x6 : Int32) (m : Mem) (H : Heap) (locs : List Loc) (ls : Array Slot), IW D ca ad (WA ca ad s.heap.size) s m H locs → lv_has ls 8 [(0, .ref (ad 99)), (1, .int x1), (2, .int x2), (3, .int x3), (4, .int x4), (5, .int x5), (6, .int x6)] → fX12_feed_20 N n x1 x2 x3 x4 x5 x6 m = some fin → W p l e rmX12_feed s mm args below meth c H locs 0 0 (MQ below (QI D ca ad s.heap.size fin.1 fin.2) args s 0 0 (WA ca ad s.heap.size)) (F0 mm 20 ls []) := by
  have hx := X.1
  have hb := X.2.1
  intro n
  induction n with
  | zero => intro x1 x2 x3 x4 x5 x6 m H locs ls hI hl hm
            exact absurd hm (by intro q; cases q)
  | succ n ih =>
    intro x1 x2 x3 x4 x5 x6 m H locs ls hI hl hm
    have hm : (if (20 : Int32) ≤ x6 then (some (((mI m 99 2 ((m.1 99 2) + (20 : Int32))).1 99 2), (mI m 99 2 ((m.1 99 2) + (20 : Int32))))) else (if (4 : Int32) ≤ x6 then (if (8 : Int32) ≤ x6 then (if (12 : Int32) ≤ x6 then (if (16 : Int32) ≤ x6 then (fX12_feed_73 N (fun x1 x2 x3 x4 x5 x6 m => fX12_feed_20 N n x1 x2 x3 x4 x5 x6 m) x1 x2 x3 x4 x5 x6 x5 m) else (fX12_feed_73 N (fun x1 x2 x3 x4 x5 x6 m => fX12_feed_20 N n x1 x2 x3 x4 x5 x6 m) x1 x2 x3 x4 x5 x6 x4 m)) else (fX12_feed_73 N (fun x1 x2 x3 x4 x5 x6 m => fX12_feed_20 N n x1 x2 x3 x4 x5 x6 m) x1 x2 x3 x4 x5 x6 x3 m)) else (fX12_feed_73 N (fun x1 x2 x3 x4 x5 x6 m => fX12_feed_20 N n x1 x2 x3 x4 x5 x6 m) x1 x2 x3 x4 x5 x6 x2 m)) else (fX12_feed_73 N (fun x1 x2 x3 x4 x5 x6 m => fX12_feed_20 N n x1 x2 x3 x4 x5 x6 m) x1 x2 x3 x4 x5 x6 x1 m))) = some fin := hm
    refine lv_iload hx hb dX12_feed_20 (lv_at hl 6 rfl) ?_
    refine lv_bipush (v := (20 : Int32)) hx hb dX12_feed_22 (by decide) ?_
    refine lv_icmp_ge (tgt := 110) hx hb dX12_feed_24 (by decide) (fun c2 => ?_) (fun c2 => ?_)
    · have hm := g_t c2 hm
      refine lv_aload_n hx hb dX12_feed_110 rfl (lv_at hl 0 rfl) ?_
      refine lv_dup hx hb dX12_feed_111 rfl ?_
      refine gI X hI fdX12_157 (la_99 hn) dX12_feed_112 ?_
      refine lv_bipush (v := (20 : Int32)) hx hb dX12_feed_115 (by decide) ?_
      refine lv_iadd hx hb dX12_feed_117 ?_
      refine pI X hI fpX12_157 (la_99 hn) dX12_feed_118 (fun H locs hI => ?_)
      refine lv_aload_n hx hb dX12_feed_121 rfl (lv_at hl 0 rfl) ?_
      refine gI X hI fdX12_157 (la_99 hn) dX12_feed_122 ?_
      exact rI X hI hr (g_p hm).1 (g_p hm).2 dX12_feed_125
    · have hm := g_f c2 hm
      refine lv_iload hx hb dX12_feed_27 (lv_at hl 6 rfl) ?_
      refine lv_iconst (v := (4 : Int32)) hx hb dX12_feed_29 (by decide) ?_
      refine lv_icmp_ge (tgt := 37) hx hb dX12_feed_30 (by decide) (fun c3 => ?_) (fun c3 => ?_)
      · have hm := g_t c3 hm
        refine lv_iload hx hb dX12_feed_37 (lv_at hl 6 rfl) ?_
        refine lv_bipush (v := (8 : Int32)) hx hb dX12_feed_39 (by decide) ?_
        refine lv_icmp_ge (tgt := 48) hx hb dX12_feed_41 (by decide) (fun c4 => ?_) (fun c4 => ?_)
        · have hm := g_t c4 hm
          refine lv_iload hx hb dX12_feed_48 (lv_at hl 6 rfl) ?_
          refine lv_bipush (v := (12 : Int32)) hx hb dX12_feed_50 (by decide) ?_
          refine lv_icmp_ge (tgt := 59) hx hb dX12_feed_52 (by decide) (fun c5 => ?_) (fun c5 => ?_)
          · have hm := g_t c5 hm
            refine lv_iload hx hb dX12_feed_59 (lv_at hl 6 rfl) ?_
            refine lv_bipush (v := (16 : Int32)) hx hb dX12_feed_61 (by decide) ?_
            refine lv_icmp_ge (tgt := 71) hx hb dX12_feed_63 (by decide) (fun c6 => ?_) (fun c6 => ?_)
            · have hm := g_t c6 hm
              refine lv_iload hx hb dX12_feed_71 (lv_at hl 5 rfl) ?_
              exact tX12_feed_73 N hn X hr fin ih x1 x2 x3 x4 x5 x6 x5 m H locs ls hI (lv_sub hl [0, 1, 2, 3, 4, 5, 6] rfl) hm
            · have hm := g_f c6 hm
              refine lv_iload hx hb dX12_feed_66 (lv_at hl 4 rfl) ?_
              refine lv_goto (tgt := 73) hx hb dX12_feed_68 (by decide) ?_
              exact tX12_feed_73 N hn X hr fin ih x1 x2 x3 x4 x5 x6 x4 m H locs ls hI (lv_sub hl [0, 1, 2, 3, 4, 5, 6] rfl) hm
          · have hm := g_f c5 hm
            refine lv_iload_n hx hb dX12_feed_55 rfl (lv_at hl 3 rfl) ?_
            refine lv_goto (tgt := 73) hx hb dX12_feed_56 (by decide) ?_
            exact tX12_feed_73 N hn X hr fin ih x1 x2 x3 x4 x5 x6 x3 m H locs ls hI (lv_sub hl [0, 1, 2, 3, 4, 5, 6] rfl) hm
        · have hm := g_f c4 hm
          refine lv_iload_n hx hb dX12_feed_44 rfl (lv_at hl 2 rfl) ?_
          refine lv_goto (tgt := 73) hx hb dX12_feed_45 (by decide) ?_
          exact tX12_feed_73 N hn X hr fin ih x1 x2 x3 x4 x5 x6 x2 m H locs ls hI (lv_sub hl [0, 1, 2, 3, 4, 5, 6] rfl) hm
      · have hm := g_f c3 hm
        refine lv_iload_n hx hb dX12_feed_33 rfl (lv_at hl 1 rfl) ?_
        refine lv_goto (tgt := 73) hx hb dX12_feed_34 (by decide) ?_
        exact tX12_feed_73 N hn X hr fin ih x1 x2 x3 x4 x5 x6 x1 m H locs ls hI (lv_sub hl [0, 1, 2, 3, 4, 5, 6] rfl) hm
def fX12_feed (N : Nat) (x1 : Int32) (x2 : Int32) (x3 : Int32) (x4 : Int32) (x5 : Int32) (m : Mem) : Option (Int32 × Mem) := if ((mI m 99 0 (0 : Int32)).1 99 2) ≤ (680 : Int32) then (fX12_feed_20 N N x1 x2 x3 x4 x5 (0 : Int32) (mI m 99 0 (0 : Int32))) else (some ((-1 : Int32), (mI m 99 0 (0 : Int32))))
set_option maxHeartbeats 4000000 in
set_option maxRecDepth 100000 in
theorem ctX12_feed {l : Launch} {D : va_G} {ca : Nat → ClassId} {ad : Nat → Nat} (N : Nat) (x1 : Int32) (x2 : Int32) (x3 : Int32) (x4 : Int32) (x5 : Int32)  (hn : HNr ca) (m : Mem) (fin : (Int32 × Mem)) (hm : fX12_feed N x1 x2 x3 x4 x5 m = some fin) : CI l D ca ad yX12_feed cwX12_feed rmX12_feed [.ref (ad 99), .int x1, .int x2, .int x3, .int x4, .int x5] m fin.1 fin.2 := by
  refine start (by decide) (Nat.le_of_ble_eq_true rfl) ?_
  intro p e s mm args below meth c H locs ls X hI hr hl
  have X : CX p s mm args meth c cX12_feed 8 RX12 D ca ad (WA ca ad s.heap.size) := X
  have hx := X.1
  have hb := X.2.1
  have hl : lv_has ls 8 [(0, .ref (ad 99)), (1, .int x1), (2, .int x2), (3, .int x3), (4, .int x4), (5, .int x5)] := hl
  have hm : (if ((mI m 99 0 (0 : Int32)).1 99 2) ≤ (680 : Int32) then (fX12_feed_20 N N x1 x2 x3 x4 x5 (0 : Int32) (mI m 99 0 (0 : Int32))) else (some ((-1 : Int32), (mI m 99 0 (0 : Int32))))) = some fin := hm
  refine lv_aload_n hx hb dX12_feed_0 rfl (lv_at hl 0 rfl) ?_
  refine lv_iconst (v := (0 : Int32)) hx hb dX12_feed_1 (by decide) ?_
  refine pI X hI fpX12_154 (la_99 hn) dX12_feed_2 (fun H locs hI => ?_)
  refine lv_aload_n hx hb dX12_feed_5 rfl (lv_at hl 0 rfl) ?_
  refine gI X hI fdX12_157 (la_99 hn) dX12_feed_6 ?_
  refine lv_sipush (v := (680 : Int32)) hx hb dX12_feed_9 (by decide) ?_
  refine lv_icmp_le (tgt := 17) hx hb dX12_feed_12 (by decide) (fun c1 => ?_) (fun c1 => ?_)
  · have hm := g_t c1 hm
    refine lv_iconst (v := (0 : Int32)) hx hb dX12_feed_17 (by decide) ?_
    refine lv_istore (lv' := [(6, .int (0 : Int32)), (0, .ref (ad 99)), (1, .int x1), (2, .int x2), (3, .int x3), (4, .int x4), (5, .int x5)]) hx hb dX12_feed_18 hl (by decide) rfl (fun ls hl => ?_)
    exact tX12_feed_20 N hn X hr fin  N x1 x2 x3 x4 x5 (0 : Int32) (mI m 99 0 (0 : Int32)) H locs ls hI (lv_sub hl [1, 2, 3, 4, 5, 6, 0] rfl) hm
  · have hm := g_f c1 hm
    refine lv_iconst (v := (-1 : Int32)) hx hb dX12_feed_15 (by decide) ?_
    exact rI X hI hr (g_p hm).1 (g_p hm).2 dX12_feed_16
abbrev rmX12_here : Room := { frames := 0, cells := 0, slots := 0, locals := 0 }
def fX12_here   (m : Mem) : Option Int32 := if (m.1 99 25) ≤ (m.1 99 26) then (some (-1 : Int32)) else (if (m.1 99 26) < 0 ∨ 700 ≤ (m.1 99 26).toNatClampNeg then none else (some (m.1 100 (m.1 99 26).toNatClampNeg)))
set_option maxHeartbeats 4000000 in
set_option maxRecDepth 100000 in
theorem ctX12_here {l : Launch} {D : va_G} {ca : Nat → ClassId} {ad : Nat → Nat}    (hn : HNr ca) (m : Mem) (fin : Int32) (hm : fX12_here  m = some fin) : CI l D ca ad yX12_here cwX12_here rmX12_here [.ref (ad 99)] m fin m := by
  refine start (by decide) (Nat.le_of_ble_eq_true rfl) ?_
  intro p e s mm args below meth c H locs ls X hI hr hl
  have X : CX p s mm args meth c cX12_here 1 RX12 D ca ad (WA ca ad s.heap.size) := X
  have hx := X.1
  have hb := X.2.1
  have hl : lv_has ls 1 [(0, .ref (ad 99))] := hl
  have hm : (if (m.1 99 25) ≤ (m.1 99 26) then (some (-1 : Int32)) else (if (m.1 99 26) < 0 ∨ 700 ≤ (m.1 99 26).toNatClampNeg then none else (some (m.1 100 (m.1 99 26).toNatClampNeg)))) = some fin := hm
  have hpm : m = m := rfl
  refine lv_aload_n hx hb dX12_here_0 rfl (lv_at hl 0 rfl) ?_
  refine gI X hI fdX12_160 (la_99 hn) dX12_here_1 ?_
  refine lv_aload_n hx hb dX12_here_4 rfl (lv_at hl 0 rfl) ?_
  refine gI X hI fdX12_163 (la_99 hn) dX12_here_5 ?_
  refine lv_icmp_ge (tgt := 23) hx hb dX12_here_8 (by decide) (fun c1 => ?_) (fun c1 => ?_)
  · have hm := g_t c1 hm
    refine lv_iconst (v := (-1 : Int32)) hx hb dX12_here_23 (by decide) ?_
    exact rI X hI hr (g_1 hm) hpm dX12_here_24
  · have hm := g_f c1 hm
    refine lv_aload_n hx hb dX12_here_11 rfl (lv_at hl 0 rfl) ?_
    refine gR X hI fdX12_7 (la_99 hn) rf12_1 dX12_here_12 ?_
    refine lv_aload_n hx hb dX12_here_15 rfl (lv_at hl 0 rfl) ?_
    refine gI X hI fdX12_160 (la_99 hn) dX12_here_16 ?_
    obtain ⟨g2, hm⟩ := g_no hm
    refine aI X hI (la_100 hn) g2 dX12_here_19 ?_
    refine lv_goto (tgt := 24) hx hb dX12_here_20 (by decide) ?_
    exact rI X hI hr (g_1 hm) hpm dX12_here_24
abbrev rmX12_isSmall : Room := { frames := 0, cells := 0, slots := 0, locals := 0 }
def fX12_isSmall  (x0 : Int32) (m : Mem) : Option Int32 := if x0 < (97 : Int32) then (some (0 : Int32)) else (if (122 : Int32) < x0 then (some (0 : Int32)) else (some (1 : Int32)))
set_option maxHeartbeats 4000000 in
set_option maxRecDepth 100000 in
theorem ctX12_isSmall {l : Launch} {D : va_G} {ca : Nat → ClassId} {ad : Nat → Nat}  (x0 : Int32)  (hn : HNr ca) (m : Mem) (fin : Int32) (hm : fX12_isSmall x0 m = some fin) : CI l D ca ad yX12_isSmall cwX12_isSmall rmX12_isSmall [.int x0] m fin m := by
  refine start (by decide) (Nat.le_of_ble_eq_true rfl) ?_
  intro p e s mm args below meth c H locs ls X hI hr hl
  have X : CX p s mm args meth c cX12_isSmall 1 RX12 D ca ad (WA ca ad s.heap.size) := X
  have hx := X.1
  have hb := X.2.1
  have hl : lv_has ls 1 [(0, .int x0)] := hl
  have hm : (if x0 < (97 : Int32) then (some (0 : Int32)) else (if (122 : Int32) < x0 then (some (0 : Int32)) else (some (1 : Int32)))) = some fin := hm
  have hpm : m = m := rfl
  refine lv_iload_n hx hb dX12_isSmall_0 rfl (lv_at hl 0 rfl) ?_
  refine lv_bipush (v := (97 : Int32)) hx hb dX12_isSmall_1 (by decide) ?_
  refine lv_icmp_lt (tgt := 16) hx hb dX12_isSmall_3 (by decide) (fun c1 => ?_) (fun c1 => ?_)
  · have hm := g_t c1 hm
    refine lv_iconst (v := (0 : Int32)) hx hb dX12_isSmall_16 (by decide) ?_
    exact rZ X hI hr (by decide) (g_1 hm) hpm dX12_isSmall_17
  · have hm := g_f c1 hm
    refine lv_iload_n hx hb dX12_isSmall_6 rfl (lv_at hl 0 rfl) ?_
    refine lv_bipush (v := (122 : Int32)) hx hb dX12_isSmall_7 (by decide) ?_
    refine lv_icmp_gt (tgt := 16) hx hb dX12_isSmall_9 (by decide) (fun c2 => ?_) (fun c2 => ?_)
    · have hm := g_t c2 hm
      refine lv_iconst (v := (0 : Int32)) hx hb dX12_isSmall_16 (by decide) ?_
      exact rZ X hI hr (by decide) (g_1 hm) hpm dX12_isSmall_17
    · have hm := g_f c2 hm
      refine lv_iconst (v := (1 : Int32)) hx hb dX12_isSmall_12 (by decide) ?_
      refine lv_goto (tgt := 17) hx hb dX12_isSmall_13 (by decide) ?_
      exact rZ X hI hr (by decide) (g_1 hm) hpm dX12_isSmall_17
abbrev rmX12_isDigit : Room := { frames := 0, cells := 0, slots := 0, locals := 0 }
def fX12_isDigit  (x0 : Int32) (m : Mem) : Option Int32 := if x0 < (48 : Int32) then (some (0 : Int32)) else (if (57 : Int32) < x0 then (some (0 : Int32)) else (some (1 : Int32)))
set_option maxHeartbeats 4000000 in
set_option maxRecDepth 100000 in
theorem ctX12_isDigit {l : Launch} {D : va_G} {ca : Nat → ClassId} {ad : Nat → Nat}  (x0 : Int32)  (hn : HNr ca) (m : Mem) (fin : Int32) (hm : fX12_isDigit x0 m = some fin) : CI l D ca ad yX12_isDigit cwX12_isDigit rmX12_isDigit [.int x0] m fin m := by
  refine start (by decide) (Nat.le_of_ble_eq_true rfl) ?_
  intro p e s mm args below meth c H locs ls X hI hr hl
  have X : CX p s mm args meth c cX12_isDigit 1 RX12 D ca ad (WA ca ad s.heap.size) := X
  have hx := X.1
  have hb := X.2.1
  have hl : lv_has ls 1 [(0, .int x0)] := hl
  have hm : (if x0 < (48 : Int32) then (some (0 : Int32)) else (if (57 : Int32) < x0 then (some (0 : Int32)) else (some (1 : Int32)))) = some fin := hm
  have hpm : m = m := rfl
  refine lv_iload_n hx hb dX12_isDigit_0 rfl (lv_at hl 0 rfl) ?_
  refine lv_bipush (v := (48 : Int32)) hx hb dX12_isDigit_1 (by decide) ?_
  refine lv_icmp_lt (tgt := 16) hx hb dX12_isDigit_3 (by decide) (fun c1 => ?_) (fun c1 => ?_)
  · have hm := g_t c1 hm
    refine lv_iconst (v := (0 : Int32)) hx hb dX12_isDigit_16 (by decide) ?_
    exact rZ X hI hr (by decide) (g_1 hm) hpm dX12_isDigit_17
  · have hm := g_f c1 hm
    refine lv_iload_n hx hb dX12_isDigit_6 rfl (lv_at hl 0 rfl) ?_
    refine lv_bipush (v := (57 : Int32)) hx hb dX12_isDigit_7 (by decide) ?_
    refine lv_icmp_gt (tgt := 16) hx hb dX12_isDigit_9 (by decide) (fun c2 => ?_) (fun c2 => ?_)
    · have hm := g_t c2 hm
      refine lv_iconst (v := (0 : Int32)) hx hb dX12_isDigit_16 (by decide) ?_
      exact rZ X hI hr (by decide) (g_1 hm) hpm dX12_isDigit_17
    · have hm := g_f c2 hm
      refine lv_iconst (v := (1 : Int32)) hx hb dX12_isDigit_12 (by decide) ?_
      refine lv_goto (tgt := 17) hx hb dX12_isDigit_13 (by decide) ?_
      exact rZ X hI hr (by decide) (g_1 hm) hpm dX12_isDigit_17
abbrev rmX12_word : Room := { frames := 4, cells := 0, slots := 0, locals := 90 }
def fX12_word_114 (N : Nat) (k4 : Int32 → Int32 → Mem → Option Int32) (x1 : Int32) (x2 : Int32) (m : Mem) : Option Int32 := k4 (x1 + (1 : Int32)) (x2 + (1 : Int32)) m
set_option maxHeartbeats 4000000 in
set_option maxRecDepth 100000 in
theorem tX12_word_114 (N : Nat) {l : Launch} {D : va_G} {ca : Nat → ClassId} {ad : Nat → Nat} {p : Program} {e : Env} {s : State} {mm : MethodId} {args : Array Value} {below : List Frame} {meth : Method} {c : Code} {k4 : Int32 → Int32 → Mem → Option Int32} (hn : HNr ca) (X : CX p s mm args meth c cX12_word 4 RX12 D ca ad (WA ca ad s.heap.size)) (hr : meth.sig.returnType = (some .int)) (fin : Int32) (m0 : Mem) (hk4 : ∀ (x1 : Int32) (x2 : Int32) (m : Mem) (H : Heap) (locs : List Loc) (ls : Array Slot), IW D ca ad (WA ca ad s.heap.size) s m H locs → lv_has ls 4 [(0, .ref (ad 99)), (1, .int x1), (2, .int x2)] → k4 x1 x2 m = some fin → m = m0 → W p l e rmX12_word s mm args below meth c H locs 0 0 (MQ below (QI D ca ad s.heap.size fin m0) args s 0 0 (WA ca ad s.heap.size)) (F0 mm 4 ls [])) : ∀ (x1 : Int32) (x2 : Int32) (m : Mem) (H : Heap) (locs : List Loc) (ls : Array Slot), IW D ca ad (WA ca ad s.heap.size) s m H locs → lv_has ls 4 [(0, .ref (ad 99)), (1, .int x1), (2, .int x2)] → fX12_word_114 N k4 x1 x2 m = some fin → m = m0 → W p l e rmX12_word s mm args below meth c H locs 0 0 (MQ below (QI D ca ad s.heap.size fin m0) args s 0 0 (WA ca ad s.heap.size)) (F0 mm 114 ls []) := by
  have hx := X.1
  have hb := X.2.1
  intro x1 x2 m H locs ls hI hl hm hpm
  have hm : (k4 (x1 + (1 : Int32)) (x2 + (1 : Int32)) m) = some fin := hm
  refine lv_iinc (v := (x2 + (1 : Int32))) (lv' := [(2, .int (x2 + (1 : Int32))), (0, .ref (ad 99)), (1, .int x1)]) hx hb dX12_word_114 hl (k := 2) rfl rfl (by decide) rfl (fun ls hl => ?_)
  refine lv_iinc (v := (x1 + (1 : Int32))) (lv' := [(1, .int (x1 + (1 : Int32))), (2, .int (x2 + (1 : Int32))), (0, .ref (ad 99))]) hx hb dX12_word_117 hl (k := 2) rfl rfl (by decide) rfl (fun ls hl => ?_)
  refine lv_goto (tgt := 4) hx hb dX12_word_120 (by decide) ?_
  exact hk4 (x1 + (1 : Int32)) (x2 + (1 : Int32)) m H locs ls hI (lv_sub hl [2, 0, 1] rfl) hm hpm
def fX12_word_97 (N : Nat) (k114 : Int32 → Int32 → Mem → Option Int32) : Nat → Int32 → Int32 → Mem → Option Int32
  | 0, _, _, _ => none
  | n + 1, x1, x2, m => if x2 < 0 ∨ lenS 1 ≤ x2.toNatClampNeg then none else (if (chS 1 x2.toNatClampNeg) = (32 : Int32) then (k114 x1 x2 m) else (fX12_word_97 N k114 n x1 (x2 + (1 : Int32)) m))
set_option maxHeartbeats 4000000 in
set_option maxRecDepth 100000 in
theorem tX12_word_97 (N : Nat) {l : Launch} {D : va_G} {ca : Nat → ClassId} {ad : Nat → Nat} {p : Program} {e : Env} {s : State} {mm : MethodId} {args : Array Value} {below : List Frame} {meth : Method} {c : Code} {k114 : Int32 → Int32 → Mem → Option Int32} (hn : HNr ca) (X : CX p s mm args meth c cX12_word 4 RX12 D ca ad (WA ca ad s.heap.size)) (hr : meth.sig.returnType = (some .int)) (fin : Int32) (m0 : Mem) (hk114 : ∀ (x1 : Int32) (x2 : Int32) (m : Mem) (H : Heap) (locs : List Loc) (ls : Array Slot), IW D ca ad (WA ca ad s.heap.size) s m H locs → lv_has ls 4 [(0, .ref (ad 99)), (1, .int x1), (2, .int x2)] → k114 x1 x2 m = some fin → m = m0 → W p l e rmX12_word s mm args below meth c H locs 0 0 (MQ below (QI D ca ad s.heap.size fin m0) args s 0 0 (WA ca ad s.heap.size)) (F0 mm 114 ls [])) : ∀ (n : Nat) (x1 : Int32) (x2 : Int32) (m : Mem) (H : Heap) (locs : List Loc) (ls : Array Slot), IW D ca ad (WA ca ad s.heap.size) s m H locs → lv_has ls 4 [(0, .ref (ad 99)), (1, .int x1), (2, .int x2)] → fX12_word_97 N k114 n x1 x2 m = some fin → m = m0 → W p l e rmX12_word s mm args below meth c H locs 0 0 (MQ below (QI D ca ad s.heap.size fin m0) args s 0 0 (WA ca ad s.heap.size)) (F0 mm 97 ls []) := by
  have hx := X.1
  have hb := X.2.1
  intro n
  induction n with
  | zero => intro x1 x2 m H locs ls hI hl hm hpm
            exact absurd hm (by intro q; cases q)
  | succ n ih =>
    intro x1 x2 m H locs ls hI hl hm hpm
    have hm : (if x2 < 0 ∨ lenS 1 ≤ x2.toNatClampNeg then none else (if (chS 1 x2.toNatClampNeg) = (32 : Int32) then (k114 x1 x2 m) else (fX12_word_97 N k114 n x1 (x2 + (1 : Int32)) m))) = some fin := hm
    refine va_ldcS hx hb X.2.2.2.1 X.2.2.2.2.2.2.2.2.2.2.2.2.2.2 dX12_word_97 ?_
    refine lv_iload_n hx hb dX12_word_99 rfl (lv_at hl 2 rfl) ?_
    obtain ⟨g4, hm⟩ := g_no hm
    refine backI X hI (runT (i := 1) X hI (by decide) rfl (sJ0_charAt 1 (by decide) _ g4 _ _) mdX12_204 rfl ⟨rfl, rfl⟩ ⟨Nat.le_of_ble_eq_true rfl, Nat.le_of_ble_eq_true rfl⟩ rfl hl.1 rfl (Nat.le_of_ble_eq_true rfl) dX12_word_100) (fun H locs hI => ?_)
    refine lv_bipush (v := (32 : Int32)) hx hb dX12_word_103 (by decide) ?_
    refine lv_icmp_eq (tgt := 114) hx hb dX12_word_105 (by decide) (fun c5 => ?_) (fun c5 => ?_)
    · have hm := g_t c5 hm
      exact hk114 x1 x2 m H locs ls hI (lv_sub hl [0, 1, 2] rfl) hm hpm
    · have hm := g_f c5 hm
      refine lv_iinc (v := (x2 + (1 : Int32))) (lv' := [(2, .int (x2 + (1 : Int32))), (0, .ref (ad 99)), (1, .int x1)]) hx hb dX12_word_108 hl (k := 2) rfl rfl (by decide) rfl (fun ls hl => ?_)
      refine lv_goto (tgt := 97) hx hb dX12_word_111 (by decide) ?_
      exact ih x1 (x2 + (1 : Int32)) m H locs ls hI (lv_sub hl [1, 2, 0] rfl) hm hpm
def fX12_word_69 (N : Nat) (k4 : Int32 → Int32 → Mem → Option Int32) (x1 : Int32) (x2 : Int32) (x3 : Int32) (m : Mem) : Option Int32 := if (x2 + x3) < 0 ∨ lenS 1 ≤ (x2 + x3).toNatClampNeg then none else (if (chS 1 (x2 + x3).toNatClampNeg) = (32 : Int32) then (if ((m.1 99 27) + x3) = (m.1 99 26) then (some x1) else (fX12_word_97 N (fX12_word_114 N k4) N x1 x2 m)) else (fX12_word_97 N (fX12_word_114 N k4) N x1 x2 m))
set_option maxHeartbeats 4000000 in
set_option maxRecDepth 100000 in
theorem tX12_word_69 (N : Nat) {l : Launch} {D : va_G} {ca : Nat → ClassId} {ad : Nat → Nat} {p : Program} {e : Env} {s : State} {mm : MethodId} {args : Array Value} {below : List Frame} {meth : Method} {c : Code} {k4 : Int32 → Int32 → Mem → Option Int32} (hn : HNr ca) (X : CX p s mm args meth c cX12_word 4 RX12 D ca ad (WA ca ad s.heap.size)) (hr : meth.sig.returnType = (some .int)) (fin : Int32) (m0 : Mem) (hk4 : ∀ (x1 : Int32) (x2 : Int32) (m : Mem) (H : Heap) (locs : List Loc) (ls : Array Slot), IW D ca ad (WA ca ad s.heap.size) s m H locs → lv_has ls 4 [(0, .ref (ad 99)), (1, .int x1), (2, .int x2)] → k4 x1 x2 m = some fin → m = m0 → W p l e rmX12_word s mm args below meth c H locs 0 0 (MQ below (QI D ca ad s.heap.size fin m0) args s 0 0 (WA ca ad s.heap.size)) (F0 mm 4 ls [])) : ∀ (x1 : Int32) (x2 : Int32) (x3 : Int32) (m : Mem) (H : Heap) (locs : List Loc) (ls : Array Slot), IW D ca ad (WA ca ad s.heap.size) s m H locs → lv_has ls 4 [(0, .ref (ad 99)), (1, .int x1), (2, .int x2), (3, .int x3)] → fX12_word_69 N k4 x1 x2 x3 m = some fin → m = m0 → W p l e rmX12_word s mm args below meth c H locs 0 0 (MQ below (QI D ca ad s.heap.size fin m0) args s 0 0 (WA ca ad s.heap.size)) (F0 mm 69 ls []) := by
  have hx := X.1
  have hb := X.2.1
  intro x1 x2 x3 m H locs ls hI hl hm hpm
  have hm : (if (x2 + x3) < 0 ∨ lenS 1 ≤ (x2 + x3).toNatClampNeg then none else (if (chS 1 (x2 + x3).toNatClampNeg) = (32 : Int32) then (if ((m.1 99 27) + x3) = (m.1 99 26) then (some x1) else (fX12_word_97 N (fX12_word_114 N k4) N x1 x2 m)) else (fX12_word_97 N (fX12_word_114 N k4) N x1 x2 m))) = some fin := hm
  refine va_ldcS hx hb X.2.2.2.1 X.2.2.2.2.2.2.2.2.2.2.2.2.2.2 dX12_word_69 ?_
  refine lv_iload_n hx hb dX12_word_71 rfl (lv_at hl 2 rfl) ?_
  refine lv_iload_n hx hb dX12_word_72 rfl (lv_at hl 3 rfl) ?_
  refine lv_iadd hx hb dX12_word_73 ?_
  obtain ⟨g2, hm⟩ := g_no hm
  refine backI X hI (runT (i := 1) X hI (by decide) rfl (sJ0_charAt 1 (by decide) _ g2 _ _) mdX12_204 rfl ⟨rfl, rfl⟩ ⟨Nat.le_of_ble_eq_true rfl, Nat.le_of_ble_eq_true rfl⟩ rfl hl.1 rfl (Nat.le_of_ble_eq_true rfl) dX12_word_74) (fun H locs hI => ?_)
  refine lv_bipush (v := (32 : Int32)) hx hb dX12_word_77 (by decide) ?_
  refine lv_icmp_ne (tgt := 97) hx hb dX12_word_79 (by decide) (fun c3 => ?_) (fun c3 => ?_)
  · have hm := g_f c3 hm
    exact tX12_word_97 N hn X hr fin m0 (tX12_word_114 N hn X hr fin m0 hk4) N x1 x2 m H locs ls hI (lv_sub hl [0, 1, 2] rfl) hm hpm
  · have hm := g_t c3 hm
    refine lv_aload_n hx hb dX12_word_82 rfl (lv_at hl 0 rfl) ?_
    refine gI X hI fdX12_170 (la_99 hn) dX12_word_83 ?_
    refine lv_iload_n hx hb dX12_word_86 rfl (lv_at hl 3 rfl) ?_
    refine lv_iadd hx hb dX12_word_87 ?_
    refine lv_aload_n hx hb dX12_word_88 rfl (lv_at hl 0 rfl) ?_
    refine gI X hI fdX12_160 (la_99 hn) dX12_word_89 ?_
    refine lv_icmp_ne (tgt := 97) hx hb dX12_word_92 (by decide) (fun c6 => ?_) (fun c6 => ?_)
    · have hm := g_f c6 hm
      exact tX12_word_97 N hn X hr fin m0 (tX12_word_114 N hn X hr fin m0 hk4) N x1 x2 m H locs ls hI (lv_sub hl [0, 1, 2] rfl) hm hpm
    · have hm := g_t c6 hm
      refine lv_iload_n hx hb dX12_word_95 rfl (lv_at hl 1 rfl) ?_
      exact rI X hI hr (g_1 hm) hpm dX12_word_96
def fX12_word_15 (N : Nat) (k69 : Int32 → Int32 → Int32 → Mem → Option Int32) : Nat → Int32 → Int32 → Int32 → Mem → Option Int32
  | 0, _, _, _, _ => none
  | n + 1, x1, x2, x3, m => if (x2 + x3) < 0 ∨ lenS 1 ≤ (x2 + x3).toNatClampNeg then none else (if (chS 1 (x2 + x3).toNatClampNeg) = (32 : Int32) then (k69 x1 x2 x3 m) else (if (m.1 99 26) ≤ ((m.1 99 27) + x3) then (k69 x1 x2 x3 m) else (if ((m.1 99 27) + x3) < 0 ∨ 700 ≤ ((m.1 99 27) + x3).toNatClampNeg then none else (if (x2 + x3) < 0 ∨ lenS 1 ≤ (x2 + x3).toNatClampNeg then none else (if (m.1 100 ((m.1 99 27) + x3).toNatClampNeg) = (chS 1 (x2 + x3).toNatClampNeg) then (fX12_word_15 N k69 n x1 x2 (x3 + (1 : Int32)) m) else (k69 x1 x2 x3 m))))))
set_option maxHeartbeats 4000000 in
set_option maxRecDepth 100000 in
theorem tX12_word_15 (N : Nat) {l : Launch} {D : va_G} {ca : Nat → ClassId} {ad : Nat → Nat} {p : Program} {e : Env} {s : State} {mm : MethodId} {args : Array Value} {below : List Frame} {meth : Method} {c : Code} {k69 : Int32 → Int32 → Int32 → Mem → Option Int32} (hn : HNr ca) (X : CX p s mm args meth c cX12_word 4 RX12 D ca ad (WA ca ad s.heap.size)) (hr : meth.sig.returnType = (some .int)) (fin : Int32) (m0 : Mem) (hk69 : ∀ (x1 : Int32) (x2 : Int32) (x3 : Int32) (m : Mem) (H : Heap) (locs : List Loc) (ls : Array Slot), IW D ca ad (WA ca ad s.heap.size) s m H locs → lv_has ls 4 [(0, .ref (ad 99)), (1, .int x1), (2, .int x2), (3, .int x3)] → k69 x1 x2 x3 m = some fin → m = m0 → W p l e rmX12_word s mm args below meth c H locs 0 0 (MQ below (QI D ca ad s.heap.size fin m0) args s 0 0 (WA ca ad s.heap.size)) (F0 mm 69 ls [])) : ∀ (n : Nat) (x1 : Int32) (x2 : Int32) (x3 : Int32) (m : Mem) (H : Heap) (locs : List Loc) (ls : Array Slot), IW D ca ad (WA ca ad s.heap.size) s m H locs → lv_has ls 4 [(0, .ref (ad 99)), (1, .int x1), (2, .int x2), (3, .int x3)] → fX12_word_15 N k69 n x1 x2 x3 m = some fin → m = m0 → W p l e rmX12_word s mm args below meth c H locs 0 0 (MQ below (QI D ca ad s.heap.size fin m0) args s 0 0 (WA ca ad s.heap.size)) (F0 mm 15 ls []) := by
  have hx := X.1
  have hb := X.2.1
  intro n
  induction n with
  | zero => intro x1 x2 x3 m H locs ls hI hl hm hpm
            exact absurd hm (by intro q; cases q)
  | succ n ih =>
    intro x1 x2 x3 m H locs ls hI hl hm hpm
    have hm : (if (x2 + x3) < 0 ∨ lenS 1 ≤ (x2 + x3).toNatClampNeg then none else (if (chS 1 (x2 + x3).toNatClampNeg) = (32 : Int32) then (k69 x1 x2 x3 m) else (if (m.1 99 26) ≤ ((m.1 99 27) + x3) then (k69 x1 x2 x3 m) else (if ((m.1 99 27) + x3) < 0 ∨ 700 ≤ ((m.1 99 27) + x3).toNatClampNeg then none else (if (x2 + x3) < 0 ∨ lenS 1 ≤ (x2 + x3).toNatClampNeg then none else (if (m.1 100 ((m.1 99 27) + x3).toNatClampNeg) = (chS 1 (x2 + x3).toNatClampNeg) then (fX12_word_15 N k69 n x1 x2 (x3 + (1 : Int32)) m) else (k69 x1 x2 x3 m))))))) = some fin := hm
    refine va_ldcS hx hb X.2.2.2.1 X.2.2.2.2.2.2.2.2.2.2.2.2.2.2 dX12_word_15 ?_
    refine lv_iload_n hx hb dX12_word_17 rfl (lv_at hl 2 rfl) ?_
    refine lv_iload_n hx hb dX12_word_18 rfl (lv_at hl 3 rfl) ?_
    refine lv_iadd hx hb dX12_word_19 ?_
    obtain ⟨g7, hm⟩ := g_no hm
    refine backI X hI (runT (i := 1) X hI (by decide) rfl (sJ0_charAt 1 (by decide) _ g7 _ _) mdX12_204 rfl ⟨rfl, rfl⟩ ⟨Nat.le_of_ble_eq_true rfl, Nat.le_of_ble_eq_true rfl⟩ rfl hl.1 rfl (Nat.le_of_ble_eq_true rfl) dX12_word_20) (fun H locs hI => ?_)
    refine lv_bipush (v := (32 : Int32)) hx hb dX12_word_23 (by decide) ?_
    refine lv_icmp_eq (tgt := 69) hx hb dX12_word_25 (by decide) (fun c8 => ?_) (fun c8 => ?_)
    · have hm := g_t c8 hm
      exact hk69 x1 x2 x3 m H locs ls hI (lv_sub hl [0, 1, 2, 3] rfl) hm hpm
    · have hm := g_f c8 hm
      refine lv_aload_n hx hb dX12_word_28 rfl (lv_at hl 0 rfl) ?_
      refine gI X hI fdX12_170 (la_99 hn) dX12_word_29 ?_
      refine lv_iload_n hx hb dX12_word_32 rfl (lv_at hl 3 rfl) ?_
      refine lv_iadd hx hb dX12_word_33 ?_
      refine lv_aload_n hx hb dX12_word_34 rfl (lv_at hl 0 rfl) ?_
      refine gI X hI fdX12_160 (la_99 hn) dX12_word_35 ?_
      refine lv_icmp_ge (tgt := 69) hx hb dX12_word_38 (by decide) (fun c9 => ?_) (fun c9 => ?_)
      · have hm := g_t c9 hm
        exact hk69 x1 x2 x3 m H locs ls hI (lv_sub hl [0, 1, 2, 3] rfl) hm hpm
      · have hm := g_f c9 hm
        refine lv_aload_n hx hb dX12_word_41 rfl (lv_at hl 0 rfl) ?_
        refine gR X hI fdX12_7 (la_99 hn) rf12_1 dX12_word_42 ?_
        refine lv_aload_n hx hb dX12_word_45 rfl (lv_at hl 0 rfl) ?_
        refine gI X hI fdX12_170 (la_99 hn) dX12_word_46 ?_
        refine lv_iload_n hx hb dX12_word_49 rfl (lv_at hl 3 rfl) ?_
        refine lv_iadd hx hb dX12_word_50 ?_
        obtain ⟨g10, hm⟩ := g_no hm
        refine aI X hI (la_100 hn) g10 dX12_word_51 ?_
        refine va_ldcS hx hb X.2.2.2.1 X.2.2.2.2.2.2.2.2.2.2.2.2.2.2 dX12_word_52 ?_
        refine lv_iload_n hx hb dX12_word_54 rfl (lv_at hl 2 rfl) ?_
        refine lv_iload_n hx hb dX12_word_55 rfl (lv_at hl 3 rfl) ?_
        refine lv_iadd hx hb dX12_word_56 ?_
        obtain ⟨g11, hm⟩ := g_no hm
        refine backI X hI (runT (i := 1) X hI (by decide) rfl (sJ0_charAt 1 (by decide) _ g11 _ _) mdX12_204 rfl ⟨rfl, rfl⟩ ⟨Nat.le_of_ble_eq_true rfl, Nat.le_of_ble_eq_true rfl⟩ rfl hl.1 rfl (Nat.le_of_ble_eq_true rfl) dX12_word_57) (fun H locs hI => ?_)
        refine lv_icmp_ne (tgt := 69) hx hb dX12_word_60 (by decide) (fun c12 => ?_) (fun c12 => ?_)
        · have hm := g_f c12 hm
          exact hk69 x1 x2 x3 m H locs ls hI (lv_sub hl [0, 1, 2, 3] rfl) hm hpm
        · have hm := g_t c12 hm
          refine lv_iinc (v := (x3 + (1 : Int32))) (lv' := [(3, .int (x3 + (1 : Int32))), (0, .ref (ad 99)), (1, .int x1), (2, .int x2)]) hx hb dX12_word_63 hl (k := 3) rfl rfl (by decide) rfl (fun ls hl => ?_)
          refine lv_goto (tgt := 15) hx hb dX12_word_66 (by decide) ?_
          exact ih x1 x2 (x3 + (1 : Int32)) m H locs ls hI (lv_sub hl [1, 2, 3, 0] rfl) hm hpm
def fX12_word_4 (N : Nat) : Nat → Int32 → Int32 → Mem → Option Int32
  | 0, _, _, _ => none
  | n + 1, x1, x2, m => if (Int32.ofNat (lenS 1)) ≤ x2 then (some (-1 : Int32)) else (fX12_word_15 N (fX12_word_69 N (fun x1 x2 m => fX12_word_4 N n x1 x2 m)) N x1 x2 (0 : Int32) m)
set_option maxHeartbeats 4000000 in
set_option maxRecDepth 100000 in
theorem tX12_word_4 (N : Nat) {l : Launch} {D : va_G} {ca : Nat → ClassId} {ad : Nat → Nat} {p : Program} {e : Env} {s : State} {mm : MethodId} {args : Array Value} {below : List Frame} {meth : Method} {c : Code}  (hn : HNr ca) (X : CX p s mm args meth c cX12_word 4 RX12 D ca ad (WA ca ad s.heap.size)) (hr : meth.sig.returnType = (some .int)) (fin : Int32) (m0 : Mem)  : ∀ (n : Nat) (x1 : Int32) (x2 : Int32) (m : Mem) (H : Heap) (locs : List Loc) (ls : Array Slot), IW D ca ad (WA ca ad s.heap.size) s m H locs → lv_has ls 4 [(0, .ref (ad 99)), (1, .int x1), (2, .int x2)] → fX12_word_4 N n x1 x2 m = some fin → m = m0 → W p l e rmX12_word s mm args below meth c H locs 0 0 (MQ below (QI D ca ad s.heap.size fin m0) args s 0 0 (WA ca ad s.heap.size)) (F0 mm 4 ls []) := by
  have hx := X.1
  have hb := X.2.1
  intro n
  induction n with
  | zero => intro x1 x2 m H locs ls hI hl hm hpm
            exact absurd hm (by intro q; cases q)
  | succ n ih =>
    intro x1 x2 m H locs ls hI hl hm hpm
    have hm : (if (Int32.ofNat (lenS 1)) ≤ x2 then (some (-1 : Int32)) else (fX12_word_15 N (fX12_word_69 N (fun x1 x2 m => fX12_word_4 N n x1 x2 m)) N x1 x2 (0 : Int32) m)) = some fin := hm
    refine lv_iload_n hx hb dX12_word_4 rfl (lv_at hl 2 rfl) ?_
    refine va_ldcS hx hb X.2.2.2.1 X.2.2.2.2.2.2.2.2.2.2.2.2.2.2 dX12_word_5 ?_
    refine backI X hI (runT (i := 1) X hI (by decide) rfl (sJ0_length 1 (by decide) _ _) mdX12_199 rfl ⟨rfl, rfl⟩ ⟨Nat.le_of_ble_eq_true rfl, Nat.le_of_ble_eq_true rfl⟩ rfl hl.1 rfl (Nat.le_of_ble_eq_true rfl) dX12_word_7) (fun H locs hI => ?_)
    refine lv_icmp_ge (tgt := 123) hx hb dX12_word_10 (by decide) (fun c1 => ?_) (fun c1 => ?_)
    · have hm := g_t c1 hm
      refine lv_iconst (v := (-1 : Int32)) hx hb dX12_word_123 (by decide) ?_
      exact rI X hI hr (g_1 hm) hpm dX12_word_124
    · have hm := g_f c1 hm
      refine lv_iconst (v := (0 : Int32)) hx hb dX12_word_13 (by decide) ?_
      refine lv_istore_n (lv' := [(3, .int (0 : Int32)), (0, .ref (ad 99)), (1, .int x1), (2, .int x2)]) hx hb dX12_word_14 rfl hl (by decide) rfl (fun ls hl => ?_)
      exact tX12_word_15 N hn X hr fin m0 (tX12_word_69 N hn X hr fin m0 ih) N x1 x2 (0 : Int32) m H locs ls hI (lv_sub hl [1, 2, 3, 0] rfl) hm hpm
def fX12_word (N : Nat)  (m : Mem) : Option Int32 := fX12_word_4 N N (0 : Int32) (0 : Int32) m
set_option maxHeartbeats 4000000 in
set_option maxRecDepth 100000 in
theorem ctX12_word {l : Launch} {D : va_G} {ca : Nat → ClassId} {ad : Nat → Nat} (N : Nat)   (hn : HNr ca) (m : Mem) (fin : Int32) (hm : fX12_word N m = some fin) : CI l D ca ad yX12_word cwX12_word rmX12_word [.ref (ad 99)] m fin m := by
  refine start (by decide) (Nat.le_of_ble_eq_true rfl) ?_
  intro p e s mm args below meth c H locs ls X hI hr hl
  have X : CX p s mm args meth c cX12_word 4 RX12 D ca ad (WA ca ad s.heap.size) := X
  have hx := X.1
  have hb := X.2.1
  have hl : lv_has ls 4 [(0, .ref (ad 99))] := hl
  have hm : (fX12_word_4 N N (0 : Int32) (0 : Int32) m) = some fin := hm
  have hpm : m = m := rfl
  refine lv_iconst (v := (0 : Int32)) hx hb dX12_word_0 (by decide) ?_
  refine lv_istore_n (lv' := [(1, .int (0 : Int32)), (0, .ref (ad 99))]) hx hb dX12_word_1 rfl hl (by decide) rfl (fun ls hl => ?_)
  refine lv_iconst (v := (0 : Int32)) hx hb dX12_word_2 (by decide) ?_
  refine lv_istore_n (lv' := [(2, .int (0 : Int32)), (1, .int (0 : Int32)), (0, .ref (ad 99))]) hx hb dX12_word_3 rfl hl (by decide) rfl (fun ls hl => ?_)
  exact tX12_word_4 N hn X hr fin m  N (0 : Int32) (0 : Int32) m H locs ls hI (lv_sub hl [2, 1, 0] rfl) hm hpm
abbrev rmX12_name : Room := { frames := 0, cells := 0, slots := 0, locals := 0 }
def fX12_name_53 (N : Nat) (k7 : Int32 → Mem → Option Mem) (x1 : Int32) (y0 : Int32) (y1 : Int32) (m : Mem) : Option Mem := k7 (x1 + (1 : Int32)) (mI m 99 29 (y1 ||| y0))
set_option maxHeartbeats 4000000 in
set_option maxRecDepth 100000 in
theorem tX12_name_53 (N : Nat) {l : Launch} {D : va_G} {ca : Nat → ClassId} {ad : Nat → Nat} {p : Program} {e : Env} {s : State} {mm : MethodId} {args : Array Value} {below : List Frame} {meth : Method} {c : Code} {k7 : Int32 → Mem → Option Mem} (hn : HNr ca) (X : CX p s mm args meth c cX12_name 2 RX12 D ca ad (WA ca ad s.heap.size)) (hr : meth.sig.returnType = none) (fin : Mem) (hk7 : ∀ (x1 : Int32) (m : Mem) (H : Heap) (locs : List Loc) (ls : Array Slot), IW D ca ad (WA ca ad s.heap.size) s m H locs → lv_has ls 2 [(0, .ref (ad 99)), (1, .int x1)] → k7 x1 m = some fin → W p l e rmX12_name s mm args below meth c H locs 0 0 (MQ below (QV D ca ad s.heap.size fin) args s 0 0 (WA ca ad s.heap.size)) (F0 mm 7 ls [])) : ∀ (x1 : Int32) (y0 : Int32) (y1 : Int32) (m : Mem) (H : Heap) (locs : List Loc) (ls : Array Slot), IW D ca ad (WA ca ad s.heap.size) s m H locs → lv_has ls 2 [(0, .ref (ad 99)), (1, .int x1)] → fX12_name_53 N k7 x1 y0 y1 m = some fin → W p l e rmX12_name s mm args below meth c H locs 0 0 (MQ below (QV D ca ad s.heap.size fin) args s 0 0 (WA ca ad s.heap.size)) (F0 mm 53 ls [.int y0, .int y1, .ref (ad 99)]) := by
  have hx := X.1
  have hb := X.2.1
  intro x1 y0 y1 m H locs ls hI hl hm
  have hm : (k7 (x1 + (1 : Int32)) (mI m 99 29 (y1 ||| y0))) = some fin := hm
  refine lv_ior hx hb dX12_name_53 ?_
  refine pI X hI fpX12_183 (la_99 hn) dX12_name_54 (fun H locs hI => ?_)
  refine lv_iinc (v := (x1 + (1 : Int32))) (lv' := [(1, .int (x1 + (1 : Int32))), (0, .ref (ad 99))]) hx hb dX12_name_57 hl (k := 1) rfl rfl (by decide) rfl (fun ls hl => ?_)
  refine lv_goto (tgt := 7) hx hb dX12_name_60 (by decide) ?_
  exact hk7 (x1 + (1 : Int32)) (mI m 99 29 (y1 ||| y0)) H locs ls hI (lv_sub hl [1, 0] rfl) hm
def fX12_name_7 (N : Nat) : Nat → Int32 → Mem → Option Mem
  | 0, _, _ => none
  | n + 1, x1, m => if (6 : Int32) ≤ x1 then (some m) else (if (m.1 99 26) ≤ ((m.1 99 27) + x1) then (fX12_name_53 N (fun x1 m => fX12_name_7 N n x1 m) x1 (0 : Int32) ((m.1 99 29) <<< ((5 : Int32) &&& 31)) m) else (if ((m.1 99 27) + x1) < 0 ∨ 700 ≤ ((m.1 99 27) + x1).toNatClampNeg then none else (fX12_name_53 N (fun x1 m => fX12_name_7 N n x1 m) x1 (((m.1 100 ((m.1 99 27) + x1).toNatClampNeg) - (97 : Int32)) + (1 : Int32)) ((m.1 99 29) <<< ((5 : Int32) &&& 31)) m)))
set_option maxHeartbeats 4000000 in
set_option maxRecDepth 100000 in
theorem tX12_name_7 (N : Nat) {l : Launch} {D : va_G} {ca : Nat → ClassId} {ad : Nat → Nat} {p : Program} {e : Env} {s : State} {mm : MethodId} {args : Array Value} {below : List Frame} {meth : Method} {c : Code}  (hn : HNr ca) (X : CX p s mm args meth c cX12_name 2 RX12 D ca ad (WA ca ad s.heap.size)) (hr : meth.sig.returnType = none) (fin : Mem)  : ∀ (n : Nat) (x1 : Int32) (m : Mem) (H : Heap) (locs : List Loc) (ls : Array Slot), IW D ca ad (WA ca ad s.heap.size) s m H locs → lv_has ls 2 [(0, .ref (ad 99)), (1, .int x1)] → fX12_name_7 N n x1 m = some fin → W p l e rmX12_name s mm args below meth c H locs 0 0 (MQ below (QV D ca ad s.heap.size fin) args s 0 0 (WA ca ad s.heap.size)) (F0 mm 7 ls []) := by
  have hx := X.1
  have hb := X.2.1
  intro n
  induction n with
  | zero => intro x1 m H locs ls hI hl hm
            exact absurd hm (by intro q; cases q)
  | succ n ih =>
    intro x1 m H locs ls hI hl hm
    have hm : (if (6 : Int32) ≤ x1 then (some m) else (if (m.1 99 26) ≤ ((m.1 99 27) + x1) then (fX12_name_53 N (fun x1 m => fX12_name_7 N n x1 m) x1 (0 : Int32) ((m.1 99 29) <<< ((5 : Int32) &&& 31)) m) else (if ((m.1 99 27) + x1) < 0 ∨ 700 ≤ ((m.1 99 27) + x1).toNatClampNeg then none else (fX12_name_53 N (fun x1 m => fX12_name_7 N n x1 m) x1 (((m.1 100 ((m.1 99 27) + x1).toNatClampNeg) - (97 : Int32)) + (1 : Int32)) ((m.1 99 29) <<< ((5 : Int32) &&& 31)) m)))) = some fin := hm
    refine lv_iload_n hx hb dX12_name_7 rfl (lv_at hl 1 rfl) ?_
    refine lv_bipush (v := (6 : Int32)) hx hb dX12_name_8 (by decide) ?_
    refine lv_icmp_ge (tgt := 63) hx hb dX12_name_10 (by decide) (fun c1 => ?_) (fun c1 => ?_)
    · have hm := g_t c1 hm
      exact rV X hI hr (g_1 hm) dX12_name_63
    · have hm := g_f c1 hm
      refine lv_aload_n hx hb dX12_name_13 rfl (lv_at hl 0 rfl) ?_
      refine lv_aload_n hx hb dX12_name_14 rfl (lv_at hl 0 rfl) ?_
      refine gI X hI fdX12_183 (la_99 hn) dX12_name_15 ?_
      refine lv_iconst (v := (5 : Int32)) hx hb dX12_name_18 (by decide) ?_
      refine lv_ishl hx hb dX12_name_19 ?_
      refine lv_aload_n hx hb dX12_name_20 rfl (lv_at hl 0 rfl) ?_
      refine gI X hI fdX12_170 (la_99 hn) dX12_name_21 ?_
      refine lv_iload_n hx hb dX12_name_24 rfl (lv_at hl 1 rfl) ?_
      refine lv_iadd hx hb dX12_name_25 ?_
      refine lv_aload_n hx hb dX12_name_26 rfl (lv_at hl 0 rfl) ?_
      refine gI X hI fdX12_160 (la_99 hn) dX12_name_27 ?_
      refine lv_icmp_ge (tgt := 52) hx hb dX12_name_30 (by decide) (fun c2 => ?_) (fun c2 => ?_)
      · have hm := g_t c2 hm
        refine lv_iconst (v := (0 : Int32)) hx hb dX12_name_52 (by decide) ?_
        exact tX12_name_53 N hn X hr fin ih x1 (0 : Int32) ((m.1 99 29) <<< ((5 : Int32) &&& 31)) m H locs ls hI (lv_sub hl [0, 1] rfl) hm
      · have hm := g_f c2 hm
        refine lv_aload_n hx hb dX12_name_33 rfl (lv_at hl 0 rfl) ?_
        refine gR X hI fdX12_7 (la_99 hn) rf12_1 dX12_name_34 ?_
        refine lv_aload_n hx hb dX12_name_37 rfl (lv_at hl 0 rfl) ?_
        refine gI X hI fdX12_170 (la_99 hn) dX12_name_38 ?_
        refine lv_iload_n hx hb dX12_name_41 rfl (lv_at hl 1 rfl) ?_
        refine lv_iadd hx hb dX12_name_42 ?_
        obtain ⟨g3, hm⟩ := g_no hm
        refine aI X hI (la_100 hn) g3 dX12_name_43 ?_
        refine lv_bipush (v := (97 : Int32)) hx hb dX12_name_44 (by decide) ?_
        refine lv_isub hx hb dX12_name_46 ?_
        refine lv_iconst (v := (1 : Int32)) hx hb dX12_name_47 (by decide) ?_
        refine lv_iadd hx hb dX12_name_48 ?_
        refine lv_goto (tgt := 53) hx hb dX12_name_49 (by decide) ?_
        exact tX12_name_53 N hn X hr fin ih x1 (((m.1 100 ((m.1 99 27) + x1).toNatClampNeg) - (97 : Int32)) + (1 : Int32)) ((m.1 99 29) <<< ((5 : Int32) &&& 31)) m H locs ls hI (lv_sub hl [0, 1] rfl) hm
def fX12_name (N : Nat)  (m : Mem) : Option Mem := fX12_name_7 N N (0 : Int32) (mI m 99 29 (0 : Int32))
set_option maxHeartbeats 4000000 in
set_option maxRecDepth 100000 in
theorem ctX12_name {l : Launch} {D : va_G} {ca : Nat → ClassId} {ad : Nat → Nat} (N : Nat)   (hn : HNr ca) (m : Mem) (fin : Mem) (hm : fX12_name N m = some fin) : CV l D ca ad yX12_name cwX12_name rmX12_name [.ref (ad 99)] m fin := by
  refine start (by decide) (Nat.le_of_ble_eq_true rfl) ?_
  intro p e s mm args below meth c H locs ls X hI hr hl
  have X : CX p s mm args meth c cX12_name 2 RX12 D ca ad (WA ca ad s.heap.size) := X
  have hx := X.1
  have hb := X.2.1
  have hl : lv_has ls 2 [(0, .ref (ad 99))] := hl
  have hm : (fX12_name_7 N N (0 : Int32) (mI m 99 29 (0 : Int32))) = some fin := hm
  refine lv_aload_n hx hb dX12_name_0 rfl (lv_at hl 0 rfl) ?_
  refine lv_iconst (v := (0 : Int32)) hx hb dX12_name_1 (by decide) ?_
  refine pI X hI fpX12_183 (la_99 hn) dX12_name_2 (fun H locs hI => ?_)
  refine lv_iconst (v := (0 : Int32)) hx hb dX12_name_5 (by decide) ?_
  refine lv_istore_n (lv' := [(1, .int (0 : Int32)), (0, .ref (ad 99))]) hx hb dX12_name_6 rfl hl (by decide) rfl (fun ls hl => ?_)
  exact tX12_name_7 N hn X hr fin  N (0 : Int32) (mI m 99 29 (0 : Int32)) H locs ls hI (lv_sub hl [1, 0] rfl) hm
abbrev rmX12_sign : Room := { frames := 1, cells := 0, slots := 0, locals := 20 }
def fX12_sign_150   (m : Mem) : Option Mem := if (m.1 99 29) < (256 : Int32) then (some m) else (some (mI m 99 26 ((m.1 99 26) + (1 : Int32))))
set_option maxHeartbeats 4000000 in
set_option maxRecDepth 100000 in
theorem tX12_sign_150  {l : Launch} {D : va_G} {ca : Nat → ClassId} {ad : Nat → Nat} {p : Program} {e : Env} {s : State} {mm : MethodId} {args : Array Value} {below : List Frame} {meth : Method} {c : Code}  (hn : HNr ca) (X : CX p s mm args meth c cX12_sign 2 RX12 D ca ad (WA ca ad s.heap.size)) (hr : meth.sig.returnType = none) (fin : Mem)  : ∀  (m : Mem) (H : Heap) (locs : List Loc) (ls : Array Slot), IW D ca ad (WA ca ad s.heap.size) s m H locs → lv_has ls 2 [(0, .ref (ad 99))] → fX12_sign_150  m = some fin → W p l e rmX12_sign s mm args below meth c H locs 0 0 (MQ below (QV D ca ad s.heap.size fin) args s 0 0 (WA ca ad s.heap.size)) (F0 mm 150 ls []) := by
  have hx := X.1
  have hb := X.2.1
  intro m H locs ls hI hl hm
  have hm : (if (m.1 99 29) < (256 : Int32) then (some m) else (some (mI m 99 26 ((m.1 99 26) + (1 : Int32))))) = some fin := hm
  refine lv_aload_n hx hb dX12_sign_150 rfl (lv_at hl 0 rfl) ?_
  refine gI X hI fdX12_183 (la_99 hn) dX12_sign_151 ?_
  refine lv_sipush (v := (256 : Int32)) hx hb dX12_sign_154 (by decide) ?_
  refine lv_icmp_lt (tgt := 170) hx hb dX12_sign_157 (by decide) (fun c5 => ?_) (fun c5 => ?_)
  · have hm := g_t c5 hm
    exact rV X hI hr (g_1 hm) dX12_sign_170
  · have hm := g_f c5 hm
    refine lv_aload_n hx hb dX12_sign_160 rfl (lv_at hl 0 rfl) ?_
    refine lv_dup hx hb dX12_sign_161 rfl ?_
    refine gI X hI fdX12_160 (la_99 hn) dX12_sign_162 ?_
    refine lv_iconst (v := (1 : Int32)) hx hb dX12_sign_165 (by decide) ?_
    refine lv_iadd hx hb dX12_sign_166 ?_
    refine pI X hI fpX12_160 (la_99 hn) dX12_sign_167 (fun H locs hI => ?_)
    exact rV X hI hr (g_1 hm) dX12_sign_170
def fX12_sign_128  (x1 : Int32) (m : Mem) : Option Mem := if x1 = (62 : Int32) then ((fX12_here  m).bind (fun q6 => if q6 = (61 : Int32) then (fX12_sign_150 (mI m 99 29 (258 : Int32))) else (fX12_sign_150 m))) else (fX12_sign_150 m)
set_option maxHeartbeats 4000000 in
set_option maxRecDepth 100000 in
theorem tX12_sign_128  {l : Launch} {D : va_G} {ca : Nat → ClassId} {ad : Nat → Nat} {p : Program} {e : Env} {s : State} {mm : MethodId} {args : Array Value} {below : List Frame} {meth : Method} {c : Code}  (hn : HNr ca) (X : CX p s mm args meth c cX12_sign 2 RX12 D ca ad (WA ca ad s.heap.size)) (hr : meth.sig.returnType = none) (fin : Mem)  : ∀ (x1 : Int32) (m : Mem) (H : Heap) (locs : List Loc) (ls : Array Slot), IW D ca ad (WA ca ad s.heap.size) s m H locs → lv_has ls 2 [(0, .ref (ad 99)), (1, .int x1)] → fX12_sign_128  x1 m = some fin → W p l e rmX12_sign s mm args below meth c H locs 0 0 (MQ below (QV D ca ad s.heap.size fin) args s 0 0 (WA ca ad s.heap.size)) (F0 mm 128 ls []) := by
  have hx := X.1
  have hb := X.2.1
  intro x1 m H locs ls hI hl hm
  have hm : (if x1 = (62 : Int32) then ((fX12_here  m).bind (fun q6 => if q6 = (61 : Int32) then (fX12_sign_150 (mI m 99 29 (258 : Int32))) else (fX12_sign_150 m))) else (fX12_sign_150 m)) = some fin := hm
  refine lv_iload_n hx hb dX12_sign_128 rfl (lv_at hl 1 rfl) ?_
  refine lv_bipush (v := (62 : Int32)) hx hb dX12_sign_129 (by decide) ?_
  refine lv_icmp_ne (tgt := 150) hx hb dX12_sign_131 (by decide) (fun c4 => ?_) (fun c4 => ?_)
  · have hm := g_f c4 hm
    exact tX12_sign_150  hn X hr fin  m H locs ls hI (lv_sub hl [0] rfl) hm
  · have hm := g_t c4 hm
    refine lv_aload_n hx hb dX12_sign_134 rfl (lv_at hl 0 rfl) ?_
    obtain ⟨q6, h7, hm⟩ := g_b hm
    refine backI X hI (runV X hI (ctX12_here   hn _ _ h7 _) mdX12_166 (la_99 hn) rfl ⟨rfl, rfl⟩ ⟨Nat.le_of_ble_eq_true rfl, Nat.le_of_ble_eq_true rfl⟩ rfl hl.1 rfl (Nat.le_of_ble_eq_true rfl) dX12_sign_135) (fun H locs hI => ?_)
    refine lv_bipush (v := (61 : Int32)) hx hb dX12_sign_138 (by decide) ?_
    refine lv_icmp_ne (tgt := 150) hx hb dX12_sign_140 (by decide) (fun c8 => ?_) (fun c8 => ?_)
    · have hm := g_f c8 hm
      exact tX12_sign_150  hn X hr fin  m H locs ls hI (lv_sub hl [0] rfl) hm
    · have hm := g_t c8 hm
      refine lv_aload_n hx hb dX12_sign_143 rfl (lv_at hl 0 rfl) ?_
      refine lv_sipush (v := (258 : Int32)) hx hb dX12_sign_144 (by decide) ?_
      refine pI X hI fpX12_183 (la_99 hn) dX12_sign_147 (fun H locs hI => ?_)
      exact tX12_sign_150  hn X hr fin  (mI m 99 29 (258 : Int32)) H locs ls hI (lv_sub hl [0] rfl) hm
def fX12_sign_106  (x1 : Int32) (m : Mem) : Option Mem := if x1 = (60 : Int32) then ((fX12_here  m).bind (fun q9 => if q9 = (62 : Int32) then (fX12_sign_128 x1 (mI m 99 29 (257 : Int32))) else (fX12_sign_128 x1 m))) else (fX12_sign_128 x1 m)
set_option maxHeartbeats 4000000 in
set_option maxRecDepth 100000 in
theorem tX12_sign_106  {l : Launch} {D : va_G} {ca : Nat → ClassId} {ad : Nat → Nat} {p : Program} {e : Env} {s : State} {mm : MethodId} {args : Array Value} {below : List Frame} {meth : Method} {c : Code}  (hn : HNr ca) (X : CX p s mm args meth c cX12_sign 2 RX12 D ca ad (WA ca ad s.heap.size)) (hr : meth.sig.returnType = none) (fin : Mem)  : ∀ (x1 : Int32) (m : Mem) (H : Heap) (locs : List Loc) (ls : Array Slot), IW D ca ad (WA ca ad s.heap.size) s m H locs → lv_has ls 2 [(0, .ref (ad 99)), (1, .int x1)] → fX12_sign_106  x1 m = some fin → W p l e rmX12_sign s mm args below meth c H locs 0 0 (MQ below (QV D ca ad s.heap.size fin) args s 0 0 (WA ca ad s.heap.size)) (F0 mm 106 ls []) := by
  have hx := X.1
  have hb := X.2.1
  intro x1 m H locs ls hI hl hm
  have hm : (if x1 = (60 : Int32) then ((fX12_here  m).bind (fun q9 => if q9 = (62 : Int32) then (fX12_sign_128 x1 (mI m 99 29 (257 : Int32))) else (fX12_sign_128 x1 m))) else (fX12_sign_128 x1 m)) = some fin := hm
  refine lv_iload_n hx hb dX12_sign_106 rfl (lv_at hl 1 rfl) ?_
  refine lv_bipush (v := (60 : Int32)) hx hb dX12_sign_107 (by decide) ?_
  refine lv_icmp_ne (tgt := 128) hx hb dX12_sign_109 (by decide) (fun c3 => ?_) (fun c3 => ?_)
  · have hm := g_f c3 hm
    exact tX12_sign_128  hn X hr fin  x1 m H locs ls hI (lv_sub hl [0, 1] rfl) hm
  · have hm := g_t c3 hm
    refine lv_aload_n hx hb dX12_sign_112 rfl (lv_at hl 0 rfl) ?_
    obtain ⟨q9, h10, hm⟩ := g_b hm
    refine backI X hI (runV X hI (ctX12_here   hn _ _ h10 _) mdX12_166 (la_99 hn) rfl ⟨rfl, rfl⟩ ⟨Nat.le_of_ble_eq_true rfl, Nat.le_of_ble_eq_true rfl⟩ rfl hl.1 rfl (Nat.le_of_ble_eq_true rfl) dX12_sign_113) (fun H locs hI => ?_)
    refine lv_bipush (v := (62 : Int32)) hx hb dX12_sign_116 (by decide) ?_
    refine lv_icmp_ne (tgt := 128) hx hb dX12_sign_118 (by decide) (fun c11 => ?_) (fun c11 => ?_)
    · have hm := g_f c11 hm
      exact tX12_sign_128  hn X hr fin  x1 m H locs ls hI (lv_sub hl [0, 1] rfl) hm
    · have hm := g_t c11 hm
      refine lv_aload_n hx hb dX12_sign_121 rfl (lv_at hl 0 rfl) ?_
      refine lv_sipush (v := (257 : Int32)) hx hb dX12_sign_122 (by decide) ?_
      refine pI X hI fpX12_183 (la_99 hn) dX12_sign_125 (fun H locs hI => ?_)
      exact tX12_sign_128  hn X hr fin  x1 (mI m 99 29 (257 : Int32)) H locs ls hI (lv_sub hl [0, 1] rfl) hm
def fX12_sign_76  (x1 : Int32) (y0 : Int32) (m : Mem) : Option Mem := if x1 = (60 : Int32) then ((fX12_here  (mI (mI m 99 28 y0) 99 29 x1)).bind (fun q12 => if q12 = (61 : Int32) then (fX12_sign_106 x1 (mI (mI (mI m 99 28 y0) 99 29 x1) 99 29 (256 : Int32))) else (fX12_sign_106 x1 (mI (mI m 99 28 y0) 99 29 x1)))) else (fX12_sign_106 x1 (mI (mI m 99 28 y0) 99 29 x1))
set_option maxHeartbeats 4000000 in
set_option maxRecDepth 100000 in
theorem tX12_sign_76  {l : Launch} {D : va_G} {ca : Nat → ClassId} {ad : Nat → Nat} {p : Program} {e : Env} {s : State} {mm : MethodId} {args : Array Value} {below : List Frame} {meth : Method} {c : Code}  (hn : HNr ca) (X : CX p s mm args meth c cX12_sign 2 RX12 D ca ad (WA ca ad s.heap.size)) (hr : meth.sig.returnType = none) (fin : Mem)  : ∀ (x1 : Int32) (y0 : Int32) (m : Mem) (H : Heap) (locs : List Loc) (ls : Array Slot), IW D ca ad (WA ca ad s.heap.size) s m H locs → lv_has ls 2 [(0, .ref (ad 99)), (1, .int x1)] → fX12_sign_76  x1 y0 m = some fin → W p l e rmX12_sign s mm args below meth c H locs 0 0 (MQ below (QV D ca ad s.heap.size fin) args s 0 0 (WA ca ad s.heap.size)) (F0 mm 76 ls [.int y0, .ref (ad 99)]) := by
  have hx := X.1
  have hb := X.2.1
  intro x1 y0 m H locs ls hI hl hm
  have hm : (if x1 = (60 : Int32) then ((fX12_here  (mI (mI m 99 28 y0) 99 29 x1)).bind (fun q12 => if q12 = (61 : Int32) then (fX12_sign_106 x1 (mI (mI (mI m 99 28 y0) 99 29 x1) 99 29 (256 : Int32))) else (fX12_sign_106 x1 (mI (mI m 99 28 y0) 99 29 x1)))) else (fX12_sign_106 x1 (mI (mI m 99 28 y0) 99 29 x1))) = some fin := hm
  refine pI X hI fpX12_173 (la_99 hn) dX12_sign_76 (fun H locs hI => ?_)
  refine lv_aload_n hx hb dX12_sign_79 rfl (lv_at hl 0 rfl) ?_
  refine lv_iload_n hx hb dX12_sign_80 rfl (lv_at hl 1 rfl) ?_
  refine pI X hI fpX12_183 (la_99 hn) dX12_sign_81 (fun H locs hI => ?_)
  refine lv_iload_n hx hb dX12_sign_84 rfl (lv_at hl 1 rfl) ?_
  refine lv_bipush (v := (60 : Int32)) hx hb dX12_sign_85 (by decide) ?_
  refine lv_icmp_ne (tgt := 106) hx hb dX12_sign_87 (by decide) (fun c2 => ?_) (fun c2 => ?_)
  · have hm := g_f c2 hm
    exact tX12_sign_106  hn X hr fin  x1 (mI (mI m 99 28 y0) 99 29 x1) H locs ls hI (lv_sub hl [0, 1] rfl) hm
  · have hm := g_t c2 hm
    refine lv_aload_n hx hb dX12_sign_90 rfl (lv_at hl 0 rfl) ?_
    obtain ⟨q12, h13, hm⟩ := g_b hm
    refine backI X hI (runV X hI (ctX12_here   hn _ _ h13 _) mdX12_166 (la_99 hn) rfl ⟨rfl, rfl⟩ ⟨Nat.le_of_ble_eq_true rfl, Nat.le_of_ble_eq_true rfl⟩ rfl hl.1 rfl (Nat.le_of_ble_eq_true rfl) dX12_sign_91) (fun H locs hI => ?_)
    refine lv_bipush (v := (61 : Int32)) hx hb dX12_sign_94 (by decide) ?_
    refine lv_icmp_ne (tgt := 106) hx hb dX12_sign_96 (by decide) (fun c14 => ?_) (fun c14 => ?_)
    · have hm := g_f c14 hm
      exact tX12_sign_106  hn X hr fin  x1 (mI (mI m 99 28 y0) 99 29 x1) H locs ls hI (lv_sub hl [0, 1] rfl) hm
    · have hm := g_t c14 hm
      refine lv_aload_n hx hb dX12_sign_99 rfl (lv_at hl 0 rfl) ?_
      refine lv_sipush (v := (256 : Int32)) hx hb dX12_sign_100 (by decide) ?_
      refine pI X hI fpX12_183 (la_99 hn) dX12_sign_103 (fun H locs hI => ?_)
      exact tX12_sign_106  hn X hr fin  x1 (mI (mI (mI m 99 28 y0) 99 29 x1) 99 29 (256 : Int32)) H locs ls hI (lv_sub hl [0, 1] rfl) hm
def fX12_sign_71  (x1 : Int32) (m : Mem) : Option Mem := fX12_sign_76 x1 (3 : Int32) m
set_option maxHeartbeats 4000000 in
set_option maxRecDepth 100000 in
theorem tX12_sign_71  {l : Launch} {D : va_G} {ca : Nat → ClassId} {ad : Nat → Nat} {p : Program} {e : Env} {s : State} {mm : MethodId} {args : Array Value} {below : List Frame} {meth : Method} {c : Code}  (hn : HNr ca) (X : CX p s mm args meth c cX12_sign 2 RX12 D ca ad (WA ca ad s.heap.size)) (hr : meth.sig.returnType = none) (fin : Mem)  : ∀ (x1 : Int32) (m : Mem) (H : Heap) (locs : List Loc) (ls : Array Slot), IW D ca ad (WA ca ad s.heap.size) s m H locs → lv_has ls 2 [(0, .ref (ad 99)), (1, .int x1)] → fX12_sign_71  x1 m = some fin → W p l e rmX12_sign s mm args below meth c H locs 0 0 (MQ below (QV D ca ad s.heap.size fin) args s 0 0 (WA ca ad s.heap.size)) (F0 mm 71 ls [.ref (ad 99)]) := by
  have hx := X.1
  have hb := X.2.1
  intro x1 m H locs ls hI hl hm
  have hm : (fX12_sign_76 x1 (3 : Int32) m) = some fin := hm
  refine lv_iconst (v := (3 : Int32)) hx hb dX12_sign_71 (by decide) ?_
  refine lv_goto (tgt := 76) hx hb dX12_sign_72 (by decide) ?_
  exact tX12_sign_76  hn X hr fin  x1 (3 : Int32) m H locs ls hI (lv_sub hl [0, 1] rfl) hm
def fX12_sign  (x1 : Int32) (m : Mem) : Option Mem := if x1 = (59 : Int32) then (fX12_sign_71 x1 (mI m 99 26 ((m.1 99 26) + (1 : Int32)))) else (if x1 = (40 : Int32) then (fX12_sign_71 x1 (mI m 99 26 ((m.1 99 26) + (1 : Int32)))) else (if x1 = (41 : Int32) then (fX12_sign_71 x1 (mI m 99 26 ((m.1 99 26) + (1 : Int32)))) else (if x1 = (43 : Int32) then (fX12_sign_71 x1 (mI m 99 26 ((m.1 99 26) + (1 : Int32)))) else (if x1 = (45 : Int32) then (fX12_sign_71 x1 (mI m 99 26 ((m.1 99 26) + (1 : Int32)))) else (if x1 = (42 : Int32) then (fX12_sign_71 x1 (mI m 99 26 ((m.1 99 26) + (1 : Int32)))) else (if x1 = (47 : Int32) then (fX12_sign_71 x1 (mI m 99 26 ((m.1 99 26) + (1 : Int32)))) else (if x1 = (60 : Int32) then (fX12_sign_71 x1 (mI m 99 26 ((m.1 99 26) + (1 : Int32)))) else (if x1 = (61 : Int32) then (fX12_sign_71 x1 (mI m 99 26 ((m.1 99 26) + (1 : Int32)))) else (if x1 = (62 : Int32) then (fX12_sign_71 x1 (mI m 99 26 ((m.1 99 26) + (1 : Int32)))) else (fX12_sign_76 x1 (5 : Int32) (mI m 99 26 ((m.1 99 26) + (1 : Int32)))))))))))))
set_option maxHeartbeats 4000000 in
set_option maxRecDepth 100000 in
theorem ctX12_sign {l : Launch} {D : va_G} {ca : Nat → ClassId} {ad : Nat → Nat}  (x1 : Int32)  (hn : HNr ca) (m : Mem) (fin : Mem) (hm : fX12_sign x1 m = some fin) : CV l D ca ad yX12_sign cwX12_sign rmX12_sign [.ref (ad 99), .int x1] m fin := by
  refine start (by decide) (Nat.le_of_ble_eq_true rfl) ?_
  intro p e s mm args below meth c H locs ls X hI hr hl
  have X : CX p s mm args meth c cX12_sign 2 RX12 D ca ad (WA ca ad s.heap.size) := X
  have hx := X.1
  have hb := X.2.1
  have hl : lv_has ls 2 [(0, .ref (ad 99)), (1, .int x1)] := hl
  have hm : (if x1 = (59 : Int32) then (fX12_sign_71 x1 (mI m 99 26 ((m.1 99 26) + (1 : Int32)))) else (if x1 = (40 : Int32) then (fX12_sign_71 x1 (mI m 99 26 ((m.1 99 26) + (1 : Int32)))) else (if x1 = (41 : Int32) then (fX12_sign_71 x1 (mI m 99 26 ((m.1 99 26) + (1 : Int32)))) else (if x1 = (43 : Int32) then (fX12_sign_71 x1 (mI m 99 26 ((m.1 99 26) + (1 : Int32)))) else (if x1 = (45 : Int32) then (fX12_sign_71 x1 (mI m 99 26 ((m.1 99 26) + (1 : Int32)))) else (if x1 = (42 : Int32) then (fX12_sign_71 x1 (mI m 99 26 ((m.1 99 26) + (1 : Int32)))) else (if x1 = (47 : Int32) then (fX12_sign_71 x1 (mI m 99 26 ((m.1 99 26) + (1 : Int32)))) else (if x1 = (60 : Int32) then (fX12_sign_71 x1 (mI m 99 26 ((m.1 99 26) + (1 : Int32)))) else (if x1 = (61 : Int32) then (fX12_sign_71 x1 (mI m 99 26 ((m.1 99 26) + (1 : Int32)))) else (if x1 = (62 : Int32) then (fX12_sign_71 x1 (mI m 99 26 ((m.1 99 26) + (1 : Int32)))) else (fX12_sign_76 x1 (5 : Int32) (mI m 99 26 ((m.1 99 26) + (1 : Int32)))))))))))))) = some fin := hm
  refine lv_aload_n hx hb dX12_sign_0 rfl (lv_at hl 0 rfl) ?_
  refine lv_dup hx hb dX12_sign_1 rfl ?_
  refine gI X hI fdX12_160 (la_99 hn) dX12_sign_2 ?_
  refine lv_iconst (v := (1 : Int32)) hx hb dX12_sign_5 (by decide) ?_
  refine lv_iadd hx hb dX12_sign_6 ?_
  refine pI X hI fpX12_160 (la_99 hn) dX12_sign_7 (fun H locs hI => ?_)
  refine lv_aload_n hx hb dX12_sign_10 rfl (lv_at hl 0 rfl) ?_
  refine lv_iload_n hx hb dX12_sign_11 rfl (lv_at hl 1 rfl) ?_
  refine lv_bipush (v := (59 : Int32)) hx hb dX12_sign_12 (by decide) ?_
  refine lv_icmp_eq (tgt := 71) hx hb dX12_sign_14 (by decide) (fun c1 => ?_) (fun c1 => ?_)
  · have hm := g_t c1 hm
    exact tX12_sign_71  hn X hr fin  x1 (mI m 99 26 ((m.1 99 26) + (1 : Int32))) H locs ls hI (lv_sub hl [0, 1] rfl) hm
  · have hm := g_f c1 hm
    refine lv_iload_n hx hb dX12_sign_17 rfl (lv_at hl 1 rfl) ?_
    refine lv_bipush (v := (40 : Int32)) hx hb dX12_sign_18 (by decide) ?_
    refine lv_icmp_eq (tgt := 71) hx hb dX12_sign_20 (by decide) (fun c15 => ?_) (fun c15 => ?_)
    · have hm := g_t c15 hm
      exact tX12_sign_71  hn X hr fin  x1 (mI m 99 26 ((m.1 99 26) + (1 : Int32))) H locs ls hI (lv_sub hl [0, 1] rfl) hm
    · have hm := g_f c15 hm
      refine lv_iload_n hx hb dX12_sign_23 rfl (lv_at hl 1 rfl) ?_
      refine lv_bipush (v := (41 : Int32)) hx hb dX12_sign_24 (by decide) ?_
      refine lv_icmp_eq (tgt := 71) hx hb dX12_sign_26 (by decide) (fun c16 => ?_) (fun c16 => ?_)
      · have hm := g_t c16 hm
        exact tX12_sign_71  hn X hr fin  x1 (mI m 99 26 ((m.1 99 26) + (1 : Int32))) H locs ls hI (lv_sub hl [0, 1] rfl) hm
      · have hm := g_f c16 hm
        refine lv_iload_n hx hb dX12_sign_29 rfl (lv_at hl 1 rfl) ?_
        refine lv_bipush (v := (43 : Int32)) hx hb dX12_sign_30 (by decide) ?_
        refine lv_icmp_eq (tgt := 71) hx hb dX12_sign_32 (by decide) (fun c17 => ?_) (fun c17 => ?_)
        · have hm := g_t c17 hm
          exact tX12_sign_71  hn X hr fin  x1 (mI m 99 26 ((m.1 99 26) + (1 : Int32))) H locs ls hI (lv_sub hl [0, 1] rfl) hm
        · have hm := g_f c17 hm
          refine lv_iload_n hx hb dX12_sign_35 rfl (lv_at hl 1 rfl) ?_
          refine lv_bipush (v := (45 : Int32)) hx hb dX12_sign_36 (by decide) ?_
          refine lv_icmp_eq (tgt := 71) hx hb dX12_sign_38 (by decide) (fun c18 => ?_) (fun c18 => ?_)
          · have hm := g_t c18 hm
            exact tX12_sign_71  hn X hr fin  x1 (mI m 99 26 ((m.1 99 26) + (1 : Int32))) H locs ls hI (lv_sub hl [0, 1] rfl) hm
          · have hm := g_f c18 hm
            refine lv_iload_n hx hb dX12_sign_41 rfl (lv_at hl 1 rfl) ?_
            refine lv_bipush (v := (42 : Int32)) hx hb dX12_sign_42 (by decide) ?_
            refine lv_icmp_eq (tgt := 71) hx hb dX12_sign_44 (by decide) (fun c19 => ?_) (fun c19 => ?_)
            · have hm := g_t c19 hm
              exact tX12_sign_71  hn X hr fin  x1 (mI m 99 26 ((m.1 99 26) + (1 : Int32))) H locs ls hI (lv_sub hl [0, 1] rfl) hm
            · have hm := g_f c19 hm
              refine lv_iload_n hx hb dX12_sign_47 rfl (lv_at hl 1 rfl) ?_
              refine lv_bipush (v := (47 : Int32)) hx hb dX12_sign_48 (by decide) ?_
              refine lv_icmp_eq (tgt := 71) hx hb dX12_sign_50 (by decide) (fun c20 => ?_) (fun c20 => ?_)
              · have hm := g_t c20 hm
                exact tX12_sign_71  hn X hr fin  x1 (mI m 99 26 ((m.1 99 26) + (1 : Int32))) H locs ls hI (lv_sub hl [0, 1] rfl) hm
              · have hm := g_f c20 hm
                refine lv_iload_n hx hb dX12_sign_53 rfl (lv_at hl 1 rfl) ?_
                refine lv_bipush (v := (60 : Int32)) hx hb dX12_sign_54 (by decide) ?_
                refine lv_icmp_eq (tgt := 71) hx hb dX12_sign_56 (by decide) (fun c21 => ?_) (fun c21 => ?_)
                · have hm := g_t c21 hm
                  exact tX12_sign_71  hn X hr fin  x1 (mI m 99 26 ((m.1 99 26) + (1 : Int32))) H locs ls hI (lv_sub hl [0, 1] rfl) hm
                · have hm := g_f c21 hm
                  refine lv_iload_n hx hb dX12_sign_59 rfl (lv_at hl 1 rfl) ?_
                  refine lv_bipush (v := (61 : Int32)) hx hb dX12_sign_60 (by decide) ?_
                  refine lv_icmp_eq (tgt := 71) hx hb dX12_sign_62 (by decide) (fun c22 => ?_) (fun c22 => ?_)
                  · have hm := g_t c22 hm
                    exact tX12_sign_71  hn X hr fin  x1 (mI m 99 26 ((m.1 99 26) + (1 : Int32))) H locs ls hI (lv_sub hl [0, 1] rfl) hm
                  · have hm := g_f c22 hm
                    refine lv_iload_n hx hb dX12_sign_65 rfl (lv_at hl 1 rfl) ?_
                    refine lv_bipush (v := (62 : Int32)) hx hb dX12_sign_66 (by decide) ?_
                    refine lv_icmp_ne (tgt := 75) hx hb dX12_sign_68 (by decide) (fun c23 => ?_) (fun c23 => ?_)
                    · have hm := g_f c23 hm
                      refine lv_iconst (v := (5 : Int32)) hx hb dX12_sign_75 (by decide) ?_
                      exact tX12_sign_76  hn X hr fin  x1 (5 : Int32) (mI m 99 26 ((m.1 99 26) + (1 : Int32))) H locs ls hI (lv_sub hl [0, 1] rfl) hm
                    · have hm := g_t c23 hm
                      exact tX12_sign_71  hn X hr fin  x1 (mI m 99 26 ((m.1 99 26) + (1 : Int32))) H locs ls hI (lv_sub hl [0, 1] rfl) hm
abbrev rmX12_token : Room := { frames := 5, cells := 0, slots := 0, locals := 113 }
def fX12_token_204 (N : Nat) (k162 : Mem → Option Mem) (y0 : Int32) (m : Mem) : Option Mem := k162 (mI (mI m 99 29 y0) 99 26 (((mI m 99 29 y0).1 99 26) + (1 : Int32)))
set_option maxHeartbeats 4000000 in
set_option maxRecDepth 100000 in
theorem tX12_token_204 (N : Nat) {l : Launch} {D : va_G} {ca : Nat → ClassId} {ad : Nat → Nat} {p : Program} {e : Env} {s : State} {mm : MethodId} {args : Array Value} {below : List Frame} {meth : Method} {c : Code} {k162 : Mem → Option Mem} (hn : HNr ca) (X : CX p s mm args meth c cX12_token 2 RX12 D ca ad (WA ca ad s.heap.size)) (hr : meth.sig.returnType = none) (fin : Mem) (hk162 : ∀  (m : Mem) (H : Heap) (locs : List Loc) (ls : Array Slot), IW D ca ad (WA ca ad s.heap.size) s m H locs → lv_has ls 2 [(0, .ref (ad 99))] → k162 m = some fin → W p l e rmX12_token s mm args below meth c H locs 0 0 (MQ below (QV D ca ad s.heap.size fin) args s 0 0 (WA ca ad s.heap.size)) (F0 mm 162 ls [])) : ∀ (y0 : Int32) (m : Mem) (H : Heap) (locs : List Loc) (ls : Array Slot), IW D ca ad (WA ca ad s.heap.size) s m H locs → lv_has ls 2 [(0, .ref (ad 99))] → fX12_token_204 N k162 y0 m = some fin → W p l e rmX12_token s mm args below meth c H locs 0 0 (MQ below (QV D ca ad s.heap.size fin) args s 0 0 (WA ca ad s.heap.size)) (F0 mm 204 ls [.int y0, .ref (ad 99)]) := by
  have hx := X.1
  have hb := X.2.1
  intro y0 m H locs ls hI hl hm
  have hm : (k162 (mI (mI m 99 29 y0) 99 26 (((mI m 99 29 y0).1 99 26) + (1 : Int32)))) = some fin := hm
  refine pI X hI fpX12_183 (la_99 hn) dX12_token_204 (fun H locs hI => ?_)
  refine lv_aload_n hx hb dX12_token_207 rfl (lv_at hl 0 rfl) ?_
  refine lv_dup hx hb dX12_token_208 rfl ?_
  refine gI X hI fdX12_160 (la_99 hn) dX12_token_209 ?_
  refine lv_iconst (v := (1 : Int32)) hx hb dX12_token_212 (by decide) ?_
  refine lv_iadd hx hb dX12_token_213 ?_
  refine pI X hI fpX12_160 (la_99 hn) dX12_token_214 (fun H locs hI => ?_)
  refine lv_goto (tgt := 162) hx hb dX12_token_217 (by decide) ?_
  exact hk162 (mI (mI m 99 29 y0) 99 26 (((mI m 99 29 y0).1 99 26) + (1 : Int32))) H locs ls hI (lv_sub hl [0] rfl) hm
def fX12_token_162 (N : Nat) : Nat → Mem → Option Mem
  | 0, _ => none
  | n + 1, m => (fX12_here  m).bind (fun q12 => (fX12_isDigit q12 m).bind (fun q14 => if q14 = 0 then (some m) else (if (m.1 99 29) ≤ (99999 : Int32) then ((fX12_here  m).bind (fun q18 => fX12_token_204 N (fun m => fX12_token_162 N n m) ((((10 : Int32) * (m.1 99 29)) + q18) - (48 : Int32)) m)) else (fX12_token_204 N (fun m => fX12_token_162 N n m) (m.1 99 29) m))))
set_option maxHeartbeats 4000000 in
set_option maxRecDepth 100000 in
theorem tX12_token_162 (N : Nat) {l : Launch} {D : va_G} {ca : Nat → ClassId} {ad : Nat → Nat} {p : Program} {e : Env} {s : State} {mm : MethodId} {args : Array Value} {below : List Frame} {meth : Method} {c : Code}  (hn : HNr ca) (X : CX p s mm args meth c cX12_token 2 RX12 D ca ad (WA ca ad s.heap.size)) (hr : meth.sig.returnType = none) (fin : Mem)  : ∀ (n : Nat)  (m : Mem) (H : Heap) (locs : List Loc) (ls : Array Slot), IW D ca ad (WA ca ad s.heap.size) s m H locs → lv_has ls 2 [(0, .ref (ad 99))] → fX12_token_162 N n m = some fin → W p l e rmX12_token s mm args below meth c H locs 0 0 (MQ below (QV D ca ad s.heap.size fin) args s 0 0 (WA ca ad s.heap.size)) (F0 mm 162 ls []) := by
  have hx := X.1
  have hb := X.2.1
  intro n
  induction n with
  | zero => intro m H locs ls hI hl hm
            exact absurd hm (by intro q; cases q)
  | succ n ih =>
    intro m H locs ls hI hl hm
    have hm : ((fX12_here  m).bind (fun q12 => (fX12_isDigit q12 m).bind (fun q14 => if q14 = 0 then (some m) else (if (m.1 99 29) ≤ (99999 : Int32) then ((fX12_here  m).bind (fun q18 => fX12_token_204 N (fun m => fX12_token_162 N n m) ((((10 : Int32) * (m.1 99 29)) + q18) - (48 : Int32)) m)) else (fX12_token_204 N (fun m => fX12_token_162 N n m) (m.1 99 29) m))))) = some fin := hm
    refine lv_aload_n hx hb dX12_token_162 rfl (lv_at hl 0 rfl) ?_
    obtain ⟨q12, h13, hm⟩ := g_b hm
    refine backI X hI (runV X hI (ctX12_here   hn _ _ h13 _) mdX12_166 (la_99 hn) rfl ⟨rfl, rfl⟩ ⟨Nat.le_of_ble_eq_true rfl, Nat.le_of_ble_eq_true rfl⟩ rfl hl.1 rfl (Nat.le_of_ble_eq_true rfl) dX12_token_163) (fun H locs hI => ?_)
    obtain ⟨q14, h15, hm⟩ := g_b hm
    refine backI X hI (runS X hI (ctX12_isDigit q12  hn _ _ h15 _) msX12_189 ⟨rfl, rfl⟩ ⟨Nat.le_of_ble_eq_true rfl, Nat.le_of_ble_eq_true rfl⟩ rfl hl.1 rfl (Nat.le_of_ble_eq_true rfl) dX12_token_166) (fun H locs hI => ?_)
    refine lv_if_eq (tgt := 225) hx hb dX12_token_169 (by decide) (fun c16 => ?_) (fun c16 => ?_)
    · have hm := g_t c16 hm
      exact rV X hI hr (g_1 hm) dX12_token_225
    · have hm := g_f c16 hm
      refine lv_aload_n hx hb dX12_token_172 rfl (lv_at hl 0 rfl) ?_
      refine lv_aload_n hx hb dX12_token_173 rfl (lv_at hl 0 rfl) ?_
      refine gI X hI fdX12_183 (la_99 hn) dX12_token_174 ?_
      refine lv_ldc hx hb X.2.2.2.1 (X.2.2.2.2.1 _ kcX12_192) dX12_token_177 ?_
      refine lv_icmp_le (tgt := 189) hx hb dX12_token_179 (by decide) (fun c17 => ?_) (fun c17 => ?_)
      · have hm := g_t c17 hm
        refine lv_bipush (v := (10 : Int32)) hx hb dX12_token_189 (by decide) ?_
        refine lv_aload_n hx hb dX12_token_191 rfl (lv_at hl 0 rfl) ?_
        refine gI X hI fdX12_183 (la_99 hn) dX12_token_192 ?_
        refine lv_imul hx hb dX12_token_195 ?_
        refine lv_aload_n hx hb dX12_token_196 rfl (lv_at hl 0 rfl) ?_
        obtain ⟨q18, h19, hm⟩ := g_b hm
        refine backI X hI (runV X hI (ctX12_here   hn _ _ h19 _) mdX12_166 (la_99 hn) rfl ⟨rfl, rfl⟩ ⟨Nat.le_of_ble_eq_true rfl, Nat.le_of_ble_eq_true rfl⟩ rfl hl.1 rfl (Nat.le_of_ble_eq_true rfl) dX12_token_197) (fun H locs hI => ?_)
        refine lv_iadd hx hb dX12_token_200 ?_
        refine lv_bipush (v := (48 : Int32)) hx hb dX12_token_201 (by decide) ?_
        refine lv_isub hx hb dX12_token_203 ?_
        exact tX12_token_204 N hn X hr fin ih ((((10 : Int32) * (m.1 99 29)) + q18) - (48 : Int32)) m H locs ls hI (lv_sub hl [0] rfl) hm
      · have hm := g_f c17 hm
        refine lv_aload_n hx hb dX12_token_182 rfl (lv_at hl 0 rfl) ?_
        refine gI X hI fdX12_183 (la_99 hn) dX12_token_183 ?_
        refine lv_goto (tgt := 204) hx hb dX12_token_186 (by decide) ?_
        exact tX12_token_204 N hn X hr fin ih (m.1 99 29) m H locs ls hI (lv_sub hl [0] rfl) hm
def fX12_token_127 (N : Nat) (y0 : Int32) (m : Mem) : Option Mem := if ((mI m 99 28 y0).1 99 28) = (1 : Int32) then ((fX12_name N (mI m 99 28 y0)).bind (fun q25 => some q25)) else (some (mI m 99 28 y0))
set_option maxHeartbeats 4000000 in
set_option maxRecDepth 100000 in
theorem tX12_token_127 (N : Nat) {l : Launch} {D : va_G} {ca : Nat → ClassId} {ad : Nat → Nat} {p : Program} {e : Env} {s : State} {mm : MethodId} {args : Array Value} {below : List Frame} {meth : Method} {c : Code}  (hn : HNr ca) (X : CX p s mm args meth c cX12_token 2 RX12 D ca ad (WA ca ad s.heap.size)) (hr : meth.sig.returnType = none) (fin : Mem)  : ∀ (y0 : Int32) (m : Mem) (H : Heap) (locs : List Loc) (ls : Array Slot), IW D ca ad (WA ca ad s.heap.size) s m H locs → lv_has ls 2 [(0, .ref (ad 99))] → fX12_token_127 N y0 m = some fin → W p l e rmX12_token s mm args below meth c H locs 0 0 (MQ below (QV D ca ad s.heap.size fin) args s 0 0 (WA ca ad s.heap.size)) (F0 mm 127 ls [.int y0, .ref (ad 99)]) := by
  have hx := X.1
  have hb := X.2.1
  intro y0 m H locs ls hI hl hm
  have hm : (if ((mI m 99 28 y0).1 99 28) = (1 : Int32) then ((fX12_name N (mI m 99 28 y0)).bind (fun q25 => some q25)) else (some (mI m 99 28 y0))) = some fin := hm
  refine pI X hI fpX12_173 (la_99 hn) dX12_token_127 (fun H locs hI => ?_)
  refine lv_aload_n hx hb dX12_token_130 rfl (lv_at hl 0 rfl) ?_
  refine gI X hI fdX12_173 (la_99 hn) dX12_token_131 ?_
  refine lv_iconst (v := (1 : Int32)) hx hb dX12_token_134 (by decide) ?_
  refine lv_icmp_ne (tgt := 225) hx hb dX12_token_135 (by decide) (fun c24 => ?_) (fun c24 => ?_)
  · have hm := g_f c24 hm
    exact rV X hI hr (g_1 hm) dX12_token_225
  · have hm := g_t c24 hm
    refine lv_aload_n hx hb dX12_token_138 rfl (lv_at hl 0 rfl) ?_
    obtain ⟨q25, h26, hm⟩ := g_b hm
    refine backV X hI (runV X hI (ctX12_name N  hn _ _ h26 _) mdX12_186 (la_99 hn) rfl ⟨rfl, rfl⟩ ⟨Nat.le_of_ble_eq_true rfl, Nat.le_of_ble_eq_true rfl⟩ rfl hl.1 rfl (Nat.le_of_ble_eq_true rfl) dX12_token_139) (fun H locs hI => ?_)
    refine lv_goto (tgt := 225) hx hb dX12_token_142 (by decide) ?_
    exact rV X hI hr (g_1 hm) dX12_token_225
def fX12_token_87 (N : Nat)  (m : Mem) : Option Mem := (fX12_word N m).bind (fun q20 => if ((mI m 99 29 q20).1 99 29) = (-1 : Int32) then (if (((mI m 99 29 q20).1 99 26) - ((mI m 99 29 q20).1 99 27)) ≤ (6 : Int32) then (fX12_token_127 N (1 : Int32) (mI m 99 29 q20)) else (fX12_token_127 N (5 : Int32) (mI m 99 29 q20))) else (fX12_token_127 N (0 : Int32) (mI m 99 29 q20)))
set_option maxHeartbeats 4000000 in
set_option maxRecDepth 100000 in
theorem tX12_token_87 (N : Nat) {l : Launch} {D : va_G} {ca : Nat → ClassId} {ad : Nat → Nat} {p : Program} {e : Env} {s : State} {mm : MethodId} {args : Array Value} {below : List Frame} {meth : Method} {c : Code}  (hn : HNr ca) (X : CX p s mm args meth c cX12_token 2 RX12 D ca ad (WA ca ad s.heap.size)) (hr : meth.sig.returnType = none) (fin : Mem)  : ∀  (m : Mem) (H : Heap) (locs : List Loc) (ls : Array Slot), IW D ca ad (WA ca ad s.heap.size) s m H locs → lv_has ls 2 [(0, .ref (ad 99))] → fX12_token_87 N m = some fin → W p l e rmX12_token s mm args below meth c H locs 0 0 (MQ below (QV D ca ad s.heap.size fin) args s 0 0 (WA ca ad s.heap.size)) (F0 mm 87 ls []) := by
  have hx := X.1
  have hb := X.2.1
  intro m H locs ls hI hl hm
  have hm : ((fX12_word N m).bind (fun q20 => if ((mI m 99 29 q20).1 99 29) = (-1 : Int32) then (if (((mI m 99 29 q20).1 99 26) - ((mI m 99 29 q20).1 99 27)) ≤ (6 : Int32) then (fX12_token_127 N (1 : Int32) (mI m 99 29 q20)) else (fX12_token_127 N (5 : Int32) (mI m 99 29 q20))) else (fX12_token_127 N (0 : Int32) (mI m 99 29 q20)))) = some fin := hm
  refine lv_aload_n hx hb dX12_token_87 rfl (lv_at hl 0 rfl) ?_
  refine lv_aload_n hx hb dX12_token_88 rfl (lv_at hl 0 rfl) ?_
  obtain ⟨q20, h21, hm⟩ := g_b hm
  refine backI X hI (runV X hI (ctX12_word N  hn _ _ h21 _) mdX12_180 (la_99 hn) rfl ⟨rfl, rfl⟩ ⟨Nat.le_of_ble_eq_true rfl, Nat.le_of_ble_eq_true rfl⟩ rfl hl.1 rfl (Nat.le_of_ble_eq_true rfl) dX12_token_89) (fun H locs hI => ?_)
  refine pI X hI fpX12_183 (la_99 hn) dX12_token_92 (fun H locs hI => ?_)
  refine lv_aload_n hx hb dX12_token_95 rfl (lv_at hl 0 rfl) ?_
  refine lv_aload_n hx hb dX12_token_96 rfl (lv_at hl 0 rfl) ?_
  refine gI X hI fdX12_183 (la_99 hn) dX12_token_97 ?_
  refine lv_iconst (v := (-1 : Int32)) hx hb dX12_token_100 (by decide) ?_
  refine lv_icmp_eq (tgt := 108) hx hb dX12_token_101 (by decide) (fun c22 => ?_) (fun c22 => ?_)
  · have hm := g_t c22 hm
    refine lv_aload_n hx hb dX12_token_108 rfl (lv_at hl 0 rfl) ?_
    refine gI X hI fdX12_160 (la_99 hn) dX12_token_109 ?_
    refine lv_aload_n hx hb dX12_token_112 rfl (lv_at hl 0 rfl) ?_
    refine gI X hI fdX12_170 (la_99 hn) dX12_token_113 ?_
    refine lv_isub hx hb dX12_token_116 ?_
    refine lv_bipush (v := (6 : Int32)) hx hb dX12_token_117 (by decide) ?_
    refine lv_icmp_le (tgt := 126) hx hb dX12_token_119 (by decide) (fun c23 => ?_) (fun c23 => ?_)
    · have hm := g_t c23 hm
      refine lv_iconst (v := (1 : Int32)) hx hb dX12_token_126 (by decide) ?_
      exact tX12_token_127 N hn X hr fin  (1 : Int32) (mI m 99 29 q20) H locs ls hI (lv_sub hl [0] rfl) hm
    · have hm := g_f c23 hm
      refine lv_iconst (v := (5 : Int32)) hx hb dX12_token_122 (by decide) ?_
      refine lv_goto (tgt := 127) hx hb dX12_token_123 (by decide) ?_
      exact tX12_token_127 N hn X hr fin  (5 : Int32) (mI m 99 29 q20) H locs ls hI (lv_sub hl [0] rfl) hm
  · have hm := g_f c22 hm
    refine lv_iconst (v := (0 : Int32)) hx hb dX12_token_104 (by decide) ?_
    refine lv_goto (tgt := 127) hx hb dX12_token_105 (by decide) ?_
    exact tX12_token_127 N hn X hr fin  (0 : Int32) (mI m 99 29 q20) H locs ls hI (lv_sub hl [0] rfl) hm
def fX12_token_64 (N : Nat) (k87 : Mem → Option Mem) : Nat → Mem → Option Mem
  | 0, _ => none
  | n + 1, m => (fX12_here  m).bind (fun q27 => (fX12_isSmall q27 m).bind (fun q29 => if q29 = 0 then (k87 m) else (fX12_token_64 N k87 n (mI m 99 26 ((m.1 99 26) + (1 : Int32))))))
set_option maxHeartbeats 4000000 in
set_option maxRecDepth 100000 in
theorem tX12_token_64 (N : Nat) {l : Launch} {D : va_G} {ca : Nat → ClassId} {ad : Nat → Nat} {p : Program} {e : Env} {s : State} {mm : MethodId} {args : Array Value} {below : List Frame} {meth : Method} {c : Code} {k87 : Mem → Option Mem} (hn : HNr ca) (X : CX p s mm args meth c cX12_token 2 RX12 D ca ad (WA ca ad s.heap.size)) (hr : meth.sig.returnType = none) (fin : Mem) (hk87 : ∀  (m : Mem) (H : Heap) (locs : List Loc) (ls : Array Slot), IW D ca ad (WA ca ad s.heap.size) s m H locs → lv_has ls 2 [(0, .ref (ad 99))] → k87 m = some fin → W p l e rmX12_token s mm args below meth c H locs 0 0 (MQ below (QV D ca ad s.heap.size fin) args s 0 0 (WA ca ad s.heap.size)) (F0 mm 87 ls [])) : ∀ (n : Nat)  (m : Mem) (H : Heap) (locs : List Loc) (ls : Array Slot), IW D ca ad (WA ca ad s.heap.size) s m H locs → lv_has ls 2 [(0, .ref (ad 99))] → fX12_token_64 N k87 n m = some fin → W p l e rmX12_token s mm args below meth c H locs 0 0 (MQ below (QV D ca ad s.heap.size fin) args s 0 0 (WA ca ad s.heap.size)) (F0 mm 64 ls []) := by
  have hx := X.1
  have hb := X.2.1
  intro n
  induction n with
  | zero => intro m H locs ls hI hl hm
            exact absurd hm (by intro q; cases q)
  | succ n ih =>
    intro m H locs ls hI hl hm
    have hm : ((fX12_here  m).bind (fun q27 => (fX12_isSmall q27 m).bind (fun q29 => if q29 = 0 then (k87 m) else (fX12_token_64 N k87 n (mI m 99 26 ((m.1 99 26) + (1 : Int32))))))) = some fin := hm
    refine lv_aload_n hx hb dX12_token_64 rfl (lv_at hl 0 rfl) ?_
    obtain ⟨q27, h28, hm⟩ := g_b hm
    refine backI X hI (runV X hI (ctX12_here   hn _ _ h28 _) mdX12_166 (la_99 hn) rfl ⟨rfl, rfl⟩ ⟨Nat.le_of_ble_eq_true rfl, Nat.le_of_ble_eq_true rfl⟩ rfl hl.1 rfl (Nat.le_of_ble_eq_true rfl) dX12_token_65) (fun H locs hI => ?_)
    obtain ⟨q29, h30, hm⟩ := g_b hm
    refine backI X hI (runS X hI (ctX12_isSmall q27  hn _ _ h30 _) msX12_176 ⟨rfl, rfl⟩ ⟨Nat.le_of_ble_eq_true rfl, Nat.le_of_ble_eq_true rfl⟩ rfl hl.1 rfl (Nat.le_of_ble_eq_true rfl) dX12_token_68) (fun H locs hI => ?_)
    refine lv_if_eq (tgt := 87) hx hb dX12_token_71 (by decide) (fun c31 => ?_) (fun c31 => ?_)
    · have hm := g_t c31 hm
      exact hk87 m H locs ls hI (lv_sub hl [0] rfl) hm
    · have hm := g_f c31 hm
      refine lv_aload_n hx hb dX12_token_74 rfl (lv_at hl 0 rfl) ?_
      refine lv_dup hx hb dX12_token_75 rfl ?_
      refine gI X hI fdX12_160 (la_99 hn) dX12_token_76 ?_
      refine lv_iconst (v := (1 : Int32)) hx hb dX12_token_79 (by decide) ?_
      refine lv_iadd hx hb dX12_token_80 ?_
      refine pI X hI fpX12_160 (la_99 hn) dX12_token_81 (fun H locs hI => ?_)
      refine lv_goto (tgt := 64) hx hb dX12_token_84 (by decide) ?_
      exact ih (mI m 99 26 ((m.1 99 26) + (1 : Int32))) H locs ls hI (lv_sub hl [0] rfl) hm
def fX12_token_31 (N : Nat)  (m : Mem) : Option Mem := (fX12_here  (mI m 99 27 (m.1 99 26))).bind (fun q1 => if q1 = (-1 : Int32) then (some (mI (mI m 99 27 (m.1 99 26)) 99 28 (4 : Int32))) else ((fX12_isSmall q1 (mI m 99 27 (m.1 99 26))).bind (fun q4 => if q4 = 0 then ((fX12_isDigit q1 (mI m 99 27 (m.1 99 26))).bind (fun q7 => if q7 = 0 then ((fX12_sign q1 (mI m 99 27 (m.1 99 26))).bind (fun q10 => some q10)) else (fX12_token_162 N N (mI (mI (mI m 99 27 (m.1 99 26)) 99 28 (2 : Int32)) 99 29 (0 : Int32))))) else (fX12_token_64 N (fX12_token_87 N) N (mI m 99 27 (m.1 99 26))))))
set_option maxHeartbeats 4000000 in
set_option maxRecDepth 100000 in
theorem tX12_token_31 (N : Nat) {l : Launch} {D : va_G} {ca : Nat → ClassId} {ad : Nat → Nat} {p : Program} {e : Env} {s : State} {mm : MethodId} {args : Array Value} {below : List Frame} {meth : Method} {c : Code}  (hn : HNr ca) (X : CX p s mm args meth c cX12_token 2 RX12 D ca ad (WA ca ad s.heap.size)) (hr : meth.sig.returnType = none) (fin : Mem)  : ∀  (m : Mem) (H : Heap) (locs : List Loc) (ls : Array Slot), IW D ca ad (WA ca ad s.heap.size) s m H locs → lv_has ls 2 [(0, .ref (ad 99))] → fX12_token_31 N m = some fin → W p l e rmX12_token s mm args below meth c H locs 0 0 (MQ below (QV D ca ad s.heap.size fin) args s 0 0 (WA ca ad s.heap.size)) (F0 mm 31 ls []) := by
  have hx := X.1
  have hb := X.2.1
  intro m H locs ls hI hl hm
  have hm : ((fX12_here  (mI m 99 27 (m.1 99 26))).bind (fun q1 => if q1 = (-1 : Int32) then (some (mI (mI m 99 27 (m.1 99 26)) 99 28 (4 : Int32))) else ((fX12_isSmall q1 (mI m 99 27 (m.1 99 26))).bind (fun q4 => if q4 = 0 then ((fX12_isDigit q1 (mI m 99 27 (m.1 99 26))).bind (fun q7 => if q7 = 0 then ((fX12_sign q1 (mI m 99 27 (m.1 99 26))).bind (fun q10 => some q10)) else (fX12_token_162 N N (mI (mI (mI m 99 27 (m.1 99 26)) 99 28 (2 : Int32)) 99 29 (0 : Int32))))) else (fX12_token_64 N (fX12_token_87 N) N (mI m 99 27 (m.1 99 26))))))) = some fin := hm
  refine lv_aload_n hx hb dX12_token_31 rfl (lv_at hl 0 rfl) ?_
  refine lv_aload_n hx hb dX12_token_32 rfl (lv_at hl 0 rfl) ?_
  refine gI X hI fdX12_160 (la_99 hn) dX12_token_33 ?_
  refine pI X hI fpX12_170 (la_99 hn) dX12_token_36 (fun H locs hI => ?_)
  refine lv_aload_n hx hb dX12_token_39 rfl (lv_at hl 0 rfl) ?_
  obtain ⟨q1, h2, hm⟩ := g_b hm
  refine backI X hI (runV X hI (ctX12_here   hn _ _ h2 _) mdX12_166 (la_99 hn) rfl ⟨rfl, rfl⟩ ⟨Nat.le_of_ble_eq_true rfl, Nat.le_of_ble_eq_true rfl⟩ rfl hl.1 rfl (Nat.le_of_ble_eq_true rfl) dX12_token_40) (fun H locs hI => ?_)
  refine lv_istore_n (lv' := [(1, .int q1), (0, .ref (ad 99))]) hx hb dX12_token_43 rfl hl (by decide) rfl (fun ls hl => ?_)
  refine lv_iload_n hx hb dX12_token_44 rfl (lv_at hl 0 rfl) ?_
  refine lv_iconst (v := (-1 : Int32)) hx hb dX12_token_45 (by decide) ?_
  refine lv_icmp_ne (tgt := 57) hx hb dX12_token_46 (by decide) (fun c3 => ?_) (fun c3 => ?_)
  · have hm := g_f c3 hm
    refine lv_iload_n hx hb dX12_token_57 rfl (lv_at hl 0 rfl) ?_
    obtain ⟨q4, h5, hm⟩ := g_b hm
    refine backI X hI (runS X hI (ctX12_isSmall q1  hn _ _ h5 _) msX12_176 ⟨rfl, rfl⟩ ⟨Nat.le_of_ble_eq_true rfl, Nat.le_of_ble_eq_true rfl⟩ rfl hl.1 rfl (Nat.le_of_ble_eq_true rfl) dX12_token_58) (fun H locs hI => ?_)
    refine lv_if_eq (tgt := 145) hx hb dX12_token_61 (by decide) (fun c6 => ?_) (fun c6 => ?_)
    · have hm := g_t c6 hm
      refine lv_iload_n hx hb dX12_token_145 rfl (lv_at hl 0 rfl) ?_
      obtain ⟨q7, h8, hm⟩ := g_b hm
      refine backI X hI (runS X hI (ctX12_isDigit q1  hn _ _ h8 _) msX12_189 ⟨rfl, rfl⟩ ⟨Nat.le_of_ble_eq_true rfl, Nat.le_of_ble_eq_true rfl⟩ rfl hl.1 rfl (Nat.le_of_ble_eq_true rfl) dX12_token_146) (fun H locs hI => ?_)
      refine lv_if_eq (tgt := 220) hx hb dX12_token_149 (by decide) (fun c9 => ?_) (fun c9 => ?_)
      · have hm := g_t c9 hm
        refine lv_aload_n hx hb dX12_token_220 rfl (lv_at hl 1 rfl) ?_
        refine lv_iload_n hx hb dX12_token_221 rfl (lv_at hl 0 rfl) ?_
        obtain ⟨q10, h11, hm⟩ := g_b hm
        refine backV X hI (runV X hI (ctX12_sign q1  hn _ _ h11 _) mdX12_193 (la_99 hn) rfl ⟨rfl, rfl⟩ ⟨Nat.le_of_ble_eq_true rfl, Nat.le_of_ble_eq_true rfl⟩ rfl hl.1 rfl (Nat.le_of_ble_eq_true rfl) dX12_token_222) (fun H locs hI => ?_)
        exact rV X hI hr (g_1 hm) dX12_token_225
      · have hm := g_f c9 hm
        refine lv_aload_n hx hb dX12_token_152 rfl (lv_at hl 1 rfl) ?_
        refine lv_iconst (v := (2 : Int32)) hx hb dX12_token_153 (by decide) ?_
        refine pI X hI fpX12_173 (la_99 hn) dX12_token_154 (fun H locs hI => ?_)
        refine lv_aload_n hx hb dX12_token_157 rfl (lv_at hl 1 rfl) ?_
        refine lv_iconst (v := (0 : Int32)) hx hb dX12_token_158 (by decide) ?_
        refine pI X hI fpX12_183 (la_99 hn) dX12_token_159 (fun H locs hI => ?_)
        exact tX12_token_162 N hn X hr fin  N (mI (mI (mI m 99 27 (m.1 99 26)) 99 28 (2 : Int32)) 99 29 (0 : Int32)) H locs ls hI (lv_sub hl [1] rfl) hm
    · have hm := g_f c6 hm
      exact tX12_token_64 N hn X hr fin (tX12_token_87 N hn X hr fin ) N (mI m 99 27 (m.1 99 26)) H locs ls hI (lv_sub hl [1] rfl) hm
  · have hm := g_t c3 hm
    refine lv_aload_n hx hb dX12_token_49 rfl (lv_at hl 1 rfl) ?_
    refine lv_iconst (v := (4 : Int32)) hx hb dX12_token_50 (by decide) ?_
    refine pI X hI fpX12_173 (la_99 hn) dX12_token_51 (fun H locs hI => ?_)
    refine lv_goto (tgt := 225) hx hb dX12_token_54 (by decide) ?_
    exact rV X hI hr (g_1 hm) dX12_token_225
def fX12_token_18 (N : Nat) (k0 : Mem → Option Mem)  (m : Mem) : Option Mem := k0 (mI m 99 26 ((m.1 99 26) + (1 : Int32)))
set_option maxHeartbeats 4000000 in
set_option maxRecDepth 100000 in
theorem tX12_token_18 (N : Nat) {l : Launch} {D : va_G} {ca : Nat → ClassId} {ad : Nat → Nat} {p : Program} {e : Env} {s : State} {mm : MethodId} {args : Array Value} {below : List Frame} {meth : Method} {c : Code} {k0 : Mem → Option Mem} (hn : HNr ca) (X : CX p s mm args meth c cX12_token 2 RX12 D ca ad (WA ca ad s.heap.size)) (hr : meth.sig.returnType = none) (fin : Mem) (hk0 : ∀  (m : Mem) (H : Heap) (locs : List Loc) (ls : Array Slot), IW D ca ad (WA ca ad s.heap.size) s m H locs → lv_has ls 2 [(0, .ref (ad 99))] → k0 m = some fin → W p l e rmX12_token s mm args below meth c H locs 0 0 (MQ below (QV D ca ad s.heap.size fin) args s 0 0 (WA ca ad s.heap.size)) (F0 mm 0 ls [])) : ∀  (m : Mem) (H : Heap) (locs : List Loc) (ls : Array Slot), IW D ca ad (WA ca ad s.heap.size) s m H locs → lv_has ls 2 [(0, .ref (ad 99))] → fX12_token_18 N k0 m = some fin → W p l e rmX12_token s mm args below meth c H locs 0 0 (MQ below (QV D ca ad s.heap.size fin) args s 0 0 (WA ca ad s.heap.size)) (F0 mm 18 ls []) := by
  have hx := X.1
  have hb := X.2.1
  intro m H locs ls hI hl hm
  have hm : (k0 (mI m 99 26 ((m.1 99 26) + (1 : Int32)))) = some fin := hm
  refine lv_aload_n hx hb dX12_token_18 rfl (lv_at hl 0 rfl) ?_
  refine lv_dup hx hb dX12_token_19 rfl ?_
  refine gI X hI fdX12_160 (la_99 hn) dX12_token_20 ?_
  refine lv_iconst (v := (1 : Int32)) hx hb dX12_token_23 (by decide) ?_
  refine lv_iadd hx hb dX12_token_24 ?_
  refine pI X hI fpX12_160 (la_99 hn) dX12_token_25 (fun H locs hI => ?_)
  refine lv_goto (tgt := 0) hx hb dX12_token_28 (by decide) ?_
  exact hk0 (mI m 99 26 ((m.1 99 26) + (1 : Int32))) H locs ls hI (lv_sub hl [0] rfl) hm
def fX12_token_0 (N : Nat) (k31 : Mem → Option Mem) : Nat → Mem → Option Mem
  | 0, _ => none
  | n + 1, m => (fX12_here  m).bind (fun q32 => if q32 = (10 : Int32) then (fX12_token_18 N (fun m => fX12_token_0 N k31 n m) m) else ((fX12_here  m).bind (fun q35 => if q35 = (32 : Int32) then (fX12_token_18 N (fun m => fX12_token_0 N k31 n m) m) else (k31 m))))
set_option maxHeartbeats 4000000 in
set_option maxRecDepth 100000 in
theorem tX12_token_0 (N : Nat) {l : Launch} {D : va_G} {ca : Nat → ClassId} {ad : Nat → Nat} {p : Program} {e : Env} {s : State} {mm : MethodId} {args : Array Value} {below : List Frame} {meth : Method} {c : Code} {k31 : Mem → Option Mem} (hn : HNr ca) (X : CX p s mm args meth c cX12_token 2 RX12 D ca ad (WA ca ad s.heap.size)) (hr : meth.sig.returnType = none) (fin : Mem) (hk31 : ∀  (m : Mem) (H : Heap) (locs : List Loc) (ls : Array Slot), IW D ca ad (WA ca ad s.heap.size) s m H locs → lv_has ls 2 [(0, .ref (ad 99))] → k31 m = some fin → W p l e rmX12_token s mm args below meth c H locs 0 0 (MQ below (QV D ca ad s.heap.size fin) args s 0 0 (WA ca ad s.heap.size)) (F0 mm 31 ls [])) : ∀ (n : Nat)  (m : Mem) (H : Heap) (locs : List Loc) (ls : Array Slot), IW D ca ad (WA ca ad s.heap.size) s m H locs → lv_has ls 2 [(0, .ref (ad 99))] → fX12_token_0 N k31 n m = some fin → W p l e rmX12_token s mm args below meth c H locs 0 0 (MQ below (QV D ca ad s.heap.size fin) args s 0 0 (WA ca ad s.heap.size)) (F0 mm 0 ls []) := by
  have hx := X.1
  have hb := X.2.1
  intro n
  induction n with
  | zero => intro m H locs ls hI hl hm
            exact absurd hm (by intro q; cases q)
  | succ n ih =>
    intro m H locs ls hI hl hm
    have hm : ((fX12_here  m).bind (fun q32 => if q32 = (10 : Int32) then (fX12_token_18 N (fun m => fX12_token_0 N k31 n m) m) else ((fX12_here  m).bind (fun q35 => if q35 = (32 : Int32) then (fX12_token_18 N (fun m => fX12_token_0 N k31 n m) m) else (k31 m))))) = some fin := hm
    refine lv_aload_n hx hb dX12_token_0 rfl (lv_at hl 0 rfl) ?_
    obtain ⟨q32, h33, hm⟩ := g_b hm
    refine backI X hI (runV X hI (ctX12_here   hn _ _ h33 _) mdX12_166 (la_99 hn) rfl ⟨rfl, rfl⟩ ⟨Nat.le_of_ble_eq_true rfl, Nat.le_of_ble_eq_true rfl⟩ rfl hl.1 rfl (Nat.le_of_ble_eq_true rfl) dX12_token_1) (fun H locs hI => ?_)
    refine lv_bipush (v := (10 : Int32)) hx hb dX12_token_4 (by decide) ?_
    refine lv_icmp_eq (tgt := 18) hx hb dX12_token_6 (by decide) (fun c34 => ?_) (fun c34 => ?_)
    · have hm := g_t c34 hm
      exact tX12_token_18 N hn X hr fin ih m H locs ls hI (lv_sub hl [0] rfl) hm
    · have hm := g_f c34 hm
      refine lv_aload_n hx hb dX12_token_9 rfl (lv_at hl 0 rfl) ?_
      obtain ⟨q35, h36, hm⟩ := g_b hm
      refine backI X hI (runV X hI (ctX12_here   hn _ _ h36 _) mdX12_166 (la_99 hn) rfl ⟨rfl, rfl⟩ ⟨Nat.le_of_ble_eq_true rfl, Nat.le_of_ble_eq_true rfl⟩ rfl hl.1 rfl (Nat.le_of_ble_eq_true rfl) dX12_token_10) (fun H locs hI => ?_)
      refine lv_bipush (v := (32 : Int32)) hx hb dX12_token_13 (by decide) ?_
      refine lv_icmp_ne (tgt := 31) hx hb dX12_token_15 (by decide) (fun c37 => ?_) (fun c37 => ?_)
      · have hm := g_f c37 hm
        exact hk31 m H locs ls hI (lv_sub hl [0] rfl) hm
      · have hm := g_t c37 hm
        exact tX12_token_18 N hn X hr fin ih m H locs ls hI (lv_sub hl [0] rfl) hm
def fX12_token (N : Nat)  (m : Mem) : Option Mem := fX12_token_0 N (fX12_token_31 N) N m
set_option maxHeartbeats 4000000 in
set_option maxRecDepth 100000 in
theorem ctX12_token {l : Launch} {D : va_G} {ca : Nat → ClassId} {ad : Nat → Nat} (N : Nat)   (hn : HNr ca) (m : Mem) (fin : Mem) (hm : fX12_token N m = some fin) : CV l D ca ad yX12_token cwX12_token rmX12_token [.ref (ad 99)] m fin := by
  refine start (by decide) (Nat.le_of_ble_eq_true rfl) ?_
  intro p e s mm args below meth c H locs ls X hI hr hl
  have X : CX p s mm args meth c cX12_token 2 RX12 D ca ad (WA ca ad s.heap.size) := X
  have hx := X.1
  have hb := X.2.1
  have hl : lv_has ls 2 [(0, .ref (ad 99))] := hl
  have hm : (fX12_token_0 N (fX12_token_31 N) N m) = some fin := hm
  exact tX12_token_0 N hn X hr fin (tX12_token_31 N hn X hr fin ) N m H locs ls hI (lv_sub hl [0] rfl) hm
abbrev rmX12_wrong : Room := { frames := 0, cells := 0, slots := 0, locals := 0 }
def fX12_wrong  (x1 : Int32) (m : Mem) : Option Mem := if (m.1 99 30) = 0 then (some (mI (mI m 99 30 x1) 99 31 ((mI m 99 30 x1).1 99 27))) else (some m)
set_option maxHeartbeats 4000000 in
set_option maxRecDepth 100000 in
theorem ctX12_wrong {l : Launch} {D : va_G} {ca : Nat → ClassId} {ad : Nat → Nat}  (x1 : Int32)  (hn : HNr ca) (m : Mem) (fin : Mem) (hm : fX12_wrong x1 m = some fin) : CV l D ca ad yX12_wrong cwX12_wrong rmX12_wrong [.ref (ad 99), .int x1] m fin := by
  refine start (by decide) (Nat.le_of_ble_eq_true rfl) ?_
  intro p e s mm args below meth c H locs ls X hI hr hl
  have X : CX p s mm args meth c cX12_wrong 2 RX12 D ca ad (WA ca ad s.heap.size) := X
  have hx := X.1
  have hb := X.2.1
  have hl : lv_has ls 2 [(0, .ref (ad 99)), (1, .int x1)] := hl
  have hm : (if (m.1 99 30) = 0 then (some (mI (mI m 99 30 x1) 99 31 ((mI m 99 30 x1).1 99 27))) else (some m)) = some fin := hm
  refine lv_aload_n hx hb dX12_wrong_0 rfl (lv_at hl 0 rfl) ?_
  refine gI X hI fdX12_208 (la_99 hn) dX12_wrong_1 ?_
  refine lv_if_eq (tgt := 8) hx hb dX12_wrong_4 (by decide) (fun c1 => ?_) (fun c1 => ?_)
  · have hm := g_t c1 hm
    refine lv_aload_n hx hb dX12_wrong_8 rfl (lv_at hl 0 rfl) ?_
    refine lv_iload_n hx hb dX12_wrong_9 rfl (lv_at hl 1 rfl) ?_
    refine pI X hI fpX12_208 (la_99 hn) dX12_wrong_10 (fun H locs hI => ?_)
    refine lv_aload_n hx hb dX12_wrong_13 rfl (lv_at hl 0 rfl) ?_
    refine lv_aload_n hx hb dX12_wrong_14 rfl (lv_at hl 0 rfl) ?_
    refine gI X hI fdX12_170 (la_99 hn) dX12_wrong_15 ?_
    refine pI X hI fpX12_211 (la_99 hn) dX12_wrong_18 (fun H locs hI => ?_)
    exact rV X hI hr (g_1 hm) dX12_wrong_21
  · have hm := g_f c1 hm
    exact rV X hI hr (g_1 hm) dX12_wrong_7
abbrev rmX12_isWord : Room := { frames := 0, cells := 0, slots := 0, locals := 0 }
def fX12_isWord  (x1 : Int32) (m : Mem) : Option Int32 := if (m.1 99 30) = 0 then (if (m.1 99 28) = 0 then (if (m.1 99 29) = x1 then (some (1 : Int32)) else (some (0 : Int32))) else (some (0 : Int32))) else (some (0 : Int32))
set_option maxHeartbeats 4000000 in
set_option maxRecDepth 100000 in
theorem ctX12_isWord {l : Launch} {D : va_G} {ca : Nat → ClassId} {ad : Nat → Nat}  (x1 : Int32)  (hn : HNr ca) (m : Mem) (fin : Int32) (hm : fX12_isWord x1 m = some fin) : CI l D ca ad yX12_isWord cwX12_isWord rmX12_isWord [.ref (ad 99), .int x1] m fin m := by
  refine start (by decide) (Nat.le_of_ble_eq_true rfl) ?_
  intro p e s mm args below meth c H locs ls X hI hr hl
  have X : CX p s mm args meth c cX12_isWord 2 RX12 D ca ad (WA ca ad s.heap.size) := X
  have hx := X.1
  have hb := X.2.1
  have hl : lv_has ls 2 [(0, .ref (ad 99)), (1, .int x1)] := hl
  have hm : (if (m.1 99 30) = 0 then (if (m.1 99 28) = 0 then (if (m.1 99 29) = x1 then (some (1 : Int32)) else (some (0 : Int32))) else (some (0 : Int32))) else (some (0 : Int32))) = some fin := hm
  have hpm : m = m := rfl
  refine lv_aload_n hx hb dX12_isWord_0 rfl (lv_at hl 0 rfl) ?_
  refine gI X hI fdX12_208 (la_99 hn) dX12_isWord_1 ?_
  refine lv_if_ne (tgt := 26) hx hb dX12_isWord_4 (by decide) (fun c1 => ?_) (fun c1 => ?_)
  · have hm := g_f c1 hm
    refine lv_iconst (v := (0 : Int32)) hx hb dX12_isWord_26 (by decide) ?_
    exact rZ X hI hr (by decide) (g_1 hm) hpm dX12_isWord_27
  · have hm := g_t c1 hm
    refine lv_aload_n hx hb dX12_isWord_7 rfl (lv_at hl 0 rfl) ?_
    refine gI X hI fdX12_173 (la_99 hn) dX12_isWord_8 ?_
    refine lv_if_ne (tgt := 26) hx hb dX12_isWord_11 (by decide) (fun c2 => ?_) (fun c2 => ?_)
    · have hm := g_f c2 hm
      refine lv_iconst (v := (0 : Int32)) hx hb dX12_isWord_26 (by decide) ?_
      exact rZ X hI hr (by decide) (g_1 hm) hpm dX12_isWord_27
    · have hm := g_t c2 hm
      refine lv_aload_n hx hb dX12_isWord_14 rfl (lv_at hl 0 rfl) ?_
      refine gI X hI fdX12_183 (la_99 hn) dX12_isWord_15 ?_
      refine lv_iload_n hx hb dX12_isWord_18 rfl (lv_at hl 1 rfl) ?_
      refine lv_icmp_ne (tgt := 26) hx hb dX12_isWord_19 (by decide) (fun c3 => ?_) (fun c3 => ?_)
      · have hm := g_f c3 hm
        refine lv_iconst (v := (0 : Int32)) hx hb dX12_isWord_26 (by decide) ?_
        exact rZ X hI hr (by decide) (g_1 hm) hpm dX12_isWord_27
      · have hm := g_t c3 hm
        refine lv_iconst (v := (1 : Int32)) hx hb dX12_isWord_22 (by decide) ?_
        refine lv_goto (tgt := 27) hx hb dX12_isWord_23 (by decide) ?_
        exact rZ X hI hr (by decide) (g_1 hm) hpm dX12_isWord_27
abbrev rmX12_isSign : Room := { frames := 0, cells := 0, slots := 0, locals := 0 }
def fX12_isSign  (x1 : Int32) (m : Mem) : Option Int32 := if (m.1 99 30) = 0 then (if (m.1 99 28) = (3 : Int32) then (if (m.1 99 29) = x1 then (some (1 : Int32)) else (some (0 : Int32))) else (some (0 : Int32))) else (some (0 : Int32))
set_option maxHeartbeats 4000000 in
set_option maxRecDepth 100000 in
theorem ctX12_isSign {l : Launch} {D : va_G} {ca : Nat → ClassId} {ad : Nat → Nat}  (x1 : Int32)  (hn : HNr ca) (m : Mem) (fin : Int32) (hm : fX12_isSign x1 m = some fin) : CI l D ca ad yX12_isSign cwX12_isSign rmX12_isSign [.ref (ad 99), .int x1] m fin m := by
  refine start (by decide) (Nat.le_of_ble_eq_true rfl) ?_
  intro p e s mm args below meth c H locs ls X hI hr hl
  have X : CX p s mm args meth c cX12_isSign 2 RX12 D ca ad (WA ca ad s.heap.size) := X
  have hx := X.1
  have hb := X.2.1
  have hl : lv_has ls 2 [(0, .ref (ad 99)), (1, .int x1)] := hl
  have hm : (if (m.1 99 30) = 0 then (if (m.1 99 28) = (3 : Int32) then (if (m.1 99 29) = x1 then (some (1 : Int32)) else (some (0 : Int32))) else (some (0 : Int32))) else (some (0 : Int32))) = some fin := hm
  have hpm : m = m := rfl
  refine lv_aload_n hx hb dX12_isSign_0 rfl (lv_at hl 0 rfl) ?_
  refine gI X hI fdX12_208 (la_99 hn) dX12_isSign_1 ?_
  refine lv_if_ne (tgt := 27) hx hb dX12_isSign_4 (by decide) (fun c1 => ?_) (fun c1 => ?_)
  · have hm := g_f c1 hm
    refine lv_iconst (v := (0 : Int32)) hx hb dX12_isSign_27 (by decide) ?_
    exact rZ X hI hr (by decide) (g_1 hm) hpm dX12_isSign_28
  · have hm := g_t c1 hm
    refine lv_aload_n hx hb dX12_isSign_7 rfl (lv_at hl 0 rfl) ?_
    refine gI X hI fdX12_173 (la_99 hn) dX12_isSign_8 ?_
    refine lv_iconst (v := (3 : Int32)) hx hb dX12_isSign_11 (by decide) ?_
    refine lv_icmp_ne (tgt := 27) hx hb dX12_isSign_12 (by decide) (fun c2 => ?_) (fun c2 => ?_)
    · have hm := g_f c2 hm
      refine lv_iconst (v := (0 : Int32)) hx hb dX12_isSign_27 (by decide) ?_
      exact rZ X hI hr (by decide) (g_1 hm) hpm dX12_isSign_28
    · have hm := g_t c2 hm
      refine lv_aload_n hx hb dX12_isSign_15 rfl (lv_at hl 0 rfl) ?_
      refine gI X hI fdX12_183 (la_99 hn) dX12_isSign_16 ?_
      refine lv_iload_n hx hb dX12_isSign_19 rfl (lv_at hl 1 rfl) ?_
      refine lv_icmp_ne (tgt := 27) hx hb dX12_isSign_20 (by decide) (fun c3 => ?_) (fun c3 => ?_)
      · have hm := g_f c3 hm
        refine lv_iconst (v := (0 : Int32)) hx hb dX12_isSign_27 (by decide) ?_
        exact rZ X hI hr (by decide) (g_1 hm) hpm dX12_isSign_28
      · have hm := g_t c3 hm
        refine lv_iconst (v := (1 : Int32)) hx hb dX12_isSign_23 (by decide) ?_
        refine lv_goto (tgt := 28) hx hb dX12_isSign_24 (by decide) ?_
        exact rZ X hI hr (by decide) (g_1 hm) hpm dX12_isSign_28
abbrev rmX12_goOn : Room := { frames := 6, cells := 0, slots := 0, locals := 134 }
def fX12_goOn (N : Nat)  (m : Mem) : Option Mem := if (m.1 99 30) = 0 then ((fX12_token N m).bind (fun q2 => some q2)) else (some m)
set_option maxHeartbeats 4000000 in
set_option maxRecDepth 100000 in
theorem ctX12_goOn {l : Launch} {D : va_G} {ca : Nat → ClassId} {ad : Nat → Nat} (N : Nat)   (hn : HNr ca) (m : Mem) (fin : Mem) (hm : fX12_goOn N m = some fin) : CV l D ca ad yX12_goOn cwX12_goOn rmX12_goOn [.ref (ad 99)] m fin := by
  refine start (by decide) (Nat.le_of_ble_eq_true rfl) ?_
  intro p e s mm args below meth c H locs ls X hI hr hl
  have X : CX p s mm args meth c cX12_goOn 1 RX12 D ca ad (WA ca ad s.heap.size) := X
  have hx := X.1
  have hb := X.2.1
  have hl : lv_has ls 1 [(0, .ref (ad 99))] := hl
  have hm : (if (m.1 99 30) = 0 then ((fX12_token N m).bind (fun q2 => some q2)) else (some m)) = some fin := hm
  refine lv_aload_n hx hb dX12_goOn_0 rfl (lv_at hl 0 rfl) ?_
  refine gI X hI fdX12_208 (la_99 hn) dX12_goOn_1 ?_
  refine lv_if_ne (tgt := 11) hx hb dX12_goOn_4 (by decide) (fun c1 => ?_) (fun c1 => ?_)
  · have hm := g_f c1 hm
    exact rV X hI hr (g_1 hm) dX12_goOn_11
  · have hm := g_t c1 hm
    refine lv_aload_n hx hb dX12_goOn_7 rfl (lv_at hl 0 rfl) ?_
    obtain ⟨q2, h3, hm⟩ := g_b hm
    refine backV X hI (runV X hI (ctX12_token N  hn _ _ h3 _) mdX12_214 (la_99 hn) rfl ⟨rfl, rfl⟩ ⟨Nat.le_of_ble_eq_true rfl, Nat.le_of_ble_eq_true rfl⟩ rfl hl.1 rfl (Nat.le_of_ble_eq_true rfl) dX12_goOn_8) (fun H locs hI => ?_)
    exact rV X hI hr (g_1 hm) dX12_goOn_11
abbrev rmX12_numeral : Room := { frames := 6, cells := 0, slots := 0, locals := 134 }
def fX12_numeral_46 (N : Nat) (x1 : Int32) (m : Mem) : Option (Int32 × Mem) := if (m.1 99 30) = 0 then ((fX12_token N m).bind (fun q7 => some ((m.1 99 29), q7))) else (some (x1, m))
set_option maxHeartbeats 4000000 in
set_option maxRecDepth 100000 in
theorem tX12_numeral_46 (N : Nat) {l : Launch} {D : va_G} {ca : Nat → ClassId} {ad : Nat → Nat} {p : Program} {e : Env} {s : State} {mm : MethodId} {args : Array Value} {below : List Frame} {meth : Method} {c : Code}  (hn : HNr ca) (X : CX p s mm args meth c cX12_numeral 4 RX12 D ca ad (WA ca ad s.heap.size)) (hr : meth.sig.returnType = (some .int)) (fin : (Int32 × Mem))  : ∀ (x1 : Int32) (m : Mem) (H : Heap) (locs : List Loc) (ls : Array Slot), IW D ca ad (WA ca ad s.heap.size) s m H locs → lv_has ls 4 [(0, .ref (ad 99)), (1, .int x1)] → fX12_numeral_46 N x1 m = some fin → W p l e rmX12_numeral s mm args below meth c H locs 0 0 (MQ below (QI D ca ad s.heap.size fin.1 fin.2) args s 0 0 (WA ca ad s.heap.size)) (F0 mm 46 ls []) := by
  have hx := X.1
  have hb := X.2.1
  intro x1 m H locs ls hI hl hm
  have hm : (if (m.1 99 30) = 0 then ((fX12_token N m).bind (fun q7 => some ((m.1 99 29), q7))) else (some (x1, m))) = some fin := hm
  refine lv_aload_n hx hb dX12_numeral_46 rfl (lv_at hl 0 rfl) ?_
  refine gI X hI fdX12_208 (la_99 hn) dX12_numeral_47 ?_
  refine lv_if_eq (tgt := 55) hx hb dX12_numeral_50 (by decide) (fun c6 => ?_) (fun c6 => ?_)
  · have hm := g_t c6 hm
    refine lv_aload_n hx hb dX12_numeral_55 rfl (lv_at hl 0 rfl) ?_
    refine gI X hI fdX12_183 (la_99 hn) dX12_numeral_56 ?_
    refine lv_istore_n (lv' := [(3, .int (m.1 99 29)), (0, .ref (ad 99)), (1, .int x1)]) hx hb dX12_numeral_59 rfl hl (by decide) rfl (fun ls hl => ?_)
    refine lv_aload_n hx hb dX12_numeral_60 rfl (lv_at hl 1 rfl) ?_
    obtain ⟨q7, h8, hm⟩ := g_b hm
    refine backV X hI (runV X hI (ctX12_token N  hn _ _ h8 _) mdX12_214 (la_99 hn) rfl ⟨rfl, rfl⟩ ⟨Nat.le_of_ble_eq_true rfl, Nat.le_of_ble_eq_true rfl⟩ rfl hl.1 rfl (Nat.le_of_ble_eq_true rfl) dX12_numeral_61) (fun H locs hI => ?_)
    refine lv_iload_n hx hb dX12_numeral_64 rfl (lv_at hl 0 rfl) ?_
    exact rI X hI hr (g_p hm).1 (g_p hm).2 dX12_numeral_65
  · have hm := g_f c6 hm
    refine lv_iload_n hx hb dX12_numeral_53 rfl (lv_at hl 1 rfl) ?_
    exact rI X hI hr (g_p hm).1 (g_p hm).2 dX12_numeral_54
def fX12_numeral_41 (N : Nat) (x1 : Int32) (m : Mem) : Option (Int32 × Mem) := (fX12_wrong (2 : Int32) m).bind (fun q4 => fX12_numeral_46 N x1 q4)
set_option maxHeartbeats 4000000 in
set_option maxRecDepth 100000 in
theorem tX12_numeral_41 (N : Nat) {l : Launch} {D : va_G} {ca : Nat → ClassId} {ad : Nat → Nat} {p : Program} {e : Env} {s : State} {mm : MethodId} {args : Array Value} {below : List Frame} {meth : Method} {c : Code}  (hn : HNr ca) (X : CX p s mm args meth c cX12_numeral 4 RX12 D ca ad (WA ca ad s.heap.size)) (hr : meth.sig.returnType = (some .int)) (fin : (Int32 × Mem))  : ∀ (x1 : Int32) (m : Mem) (H : Heap) (locs : List Loc) (ls : Array Slot), IW D ca ad (WA ca ad s.heap.size) s m H locs → lv_has ls 4 [(0, .ref (ad 99)), (1, .int x1)] → fX12_numeral_41 N x1 m = some fin → W p l e rmX12_numeral s mm args below meth c H locs 0 0 (MQ below (QI D ca ad s.heap.size fin.1 fin.2) args s 0 0 (WA ca ad s.heap.size)) (F0 mm 41 ls []) := by
  have hx := X.1
  have hb := X.2.1
  intro x1 m H locs ls hI hl hm
  have hm : ((fX12_wrong (2 : Int32) m).bind (fun q4 => fX12_numeral_46 N x1 q4)) = some fin := hm
  refine lv_aload_n hx hb dX12_numeral_41 rfl (lv_at hl 0 rfl) ?_
  refine lv_iconst (v := (2 : Int32)) hx hb dX12_numeral_42 (by decide) ?_
  obtain ⟨q4, h5, hm⟩ := g_b hm
  refine backV X hI (runV X hI (ctX12_wrong (2 : Int32)  hn _ _ h5 _) mdX12_217 (la_99 hn) rfl ⟨rfl, rfl⟩ ⟨Nat.le_of_ble_eq_true rfl, Nat.le_of_ble_eq_true rfl⟩ rfl hl.1 rfl (Nat.le_of_ble_eq_true rfl) dX12_numeral_43) (fun H locs hI => ?_)
  exact tX12_numeral_46 N hn X hr fin  x1 q4 H locs ls hI (lv_sub hl [0, 1] rfl) hm
def fX12_numeral (N : Nat) (x1 : Int32) (x2 : Int32) (m : Mem) : Option (Int32 × Mem) := if (m.1 99 30) = 0 then (if (m.1 99 28) = (2 : Int32) then (if (m.1 99 29) < x1 then (fX12_numeral_41 N x1 m) else (if (m.1 99 29) ≤ x2 then (fX12_numeral_46 N x1 m) else (fX12_numeral_41 N x1 m))) else ((fX12_wrong (1 : Int32) m).bind (fun q10 => fX12_numeral_46 N x1 q10))) else (some (x1, m))
set_option maxHeartbeats 4000000 in
set_option maxRecDepth 100000 in
theorem ctX12_numeral {l : Launch} {D : va_G} {ca : Nat → ClassId} {ad : Nat → Nat} (N : Nat) (x1 : Int32) (x2 : Int32)  (hn : HNr ca) (m : Mem) (fin : (Int32 × Mem)) (hm : fX12_numeral N x1 x2 m = some fin) : CI l D ca ad yX12_numeral cwX12_numeral rmX12_numeral [.ref (ad 99), .int x1, .int x2] m fin.1 fin.2 := by
  refine start (by decide) (Nat.le_of_ble_eq_true rfl) ?_
  intro p e s mm args below meth c H locs ls X hI hr hl
  have X : CX p s mm args meth c cX12_numeral 4 RX12 D ca ad (WA ca ad s.heap.size) := X
  have hx := X.1
  have hb := X.2.1
  have hl : lv_has ls 4 [(0, .ref (ad 99)), (1, .int x1), (2, .int x2)] := hl
  have hm : (if (m.1 99 30) = 0 then (if (m.1 99 28) = (2 : Int32) then (if (m.1 99 29) < x1 then (fX12_numeral_41 N x1 m) else (if (m.1 99 29) ≤ x2 then (fX12_numeral_46 N x1 m) else (fX12_numeral_41 N x1 m))) else ((fX12_wrong (1 : Int32) m).bind (fun q10 => fX12_numeral_46 N x1 q10))) else (some (x1, m))) = some fin := hm
  refine lv_aload_n hx hb dX12_numeral_0 rfl (lv_at hl 0 rfl) ?_
  refine gI X hI fdX12_208 (la_99 hn) dX12_numeral_1 ?_
  refine lv_if_eq (tgt := 9) hx hb dX12_numeral_4 (by decide) (fun c1 => ?_) (fun c1 => ?_)
  · have hm := g_t c1 hm
    refine lv_aload_n hx hb dX12_numeral_9 rfl (lv_at hl 0 rfl) ?_
    refine gI X hI fdX12_173 (la_99 hn) dX12_numeral_10 ?_
    refine lv_iconst (v := (2 : Int32)) hx hb dX12_numeral_13 (by decide) ?_
    refine lv_icmp_eq (tgt := 25) hx hb dX12_numeral_14 (by decide) (fun c2 => ?_) (fun c2 => ?_)
    · have hm := g_t c2 hm
      refine lv_aload_n hx hb dX12_numeral_25 rfl (lv_at hl 0 rfl) ?_
      refine gI X hI fdX12_183 (la_99 hn) dX12_numeral_26 ?_
      refine lv_iload_n hx hb dX12_numeral_29 rfl (lv_at hl 1 rfl) ?_
      refine lv_icmp_lt (tgt := 41) hx hb dX12_numeral_30 (by decide) (fun c3 => ?_) (fun c3 => ?_)
      · have hm := g_t c3 hm
        exact tX12_numeral_41 N hn X hr fin  x1 m H locs ls hI (lv_sub hl [0, 1] rfl) hm
      · have hm := g_f c3 hm
        refine lv_aload_n hx hb dX12_numeral_33 rfl (lv_at hl 0 rfl) ?_
        refine gI X hI fdX12_183 (la_99 hn) dX12_numeral_34 ?_
        refine lv_iload_n hx hb dX12_numeral_37 rfl (lv_at hl 2 rfl) ?_
        refine lv_icmp_le (tgt := 46) hx hb dX12_numeral_38 (by decide) (fun c9 => ?_) (fun c9 => ?_)
        · have hm := g_t c9 hm
          exact tX12_numeral_46 N hn X hr fin  x1 m H locs ls hI (lv_sub hl [0, 1] rfl) hm
        · have hm := g_f c9 hm
          exact tX12_numeral_41 N hn X hr fin  x1 m H locs ls hI (lv_sub hl [0, 1] rfl) hm
    · have hm := g_f c2 hm
      refine lv_aload_n hx hb dX12_numeral_17 rfl (lv_at hl 0 rfl) ?_
      refine lv_iconst (v := (1 : Int32)) hx hb dX12_numeral_18 (by decide) ?_
      obtain ⟨q10, h11, hm⟩ := g_b hm
      refine backV X hI (runV X hI (ctX12_wrong (1 : Int32)  hn _ _ h11 _) mdX12_217 (la_99 hn) rfl ⟨rfl, rfl⟩ ⟨Nat.le_of_ble_eq_true rfl, Nat.le_of_ble_eq_true rfl⟩ rfl hl.1 rfl (Nat.le_of_ble_eq_true rfl) dX12_numeral_19) (fun H locs hI => ?_)
      refine lv_goto (tgt := 46) hx hb dX12_numeral_22 (by decide) ?_
      exact tX12_numeral_46 N hn X hr fin  x1 q10 H locs ls hI (lv_sub hl [0, 1] rfl) hm
  · have hm := g_f c1 hm
    refine lv_iload_n hx hb dX12_numeral_7 rfl (lv_at hl 1 rfl) ?_
    exact rI X hI hr (g_p hm).1 (g_p hm).2 dX12_numeral_8
abbrev rmX12_found : Room := { frames := 0, cells := 0, slots := 0, locals := 0 }
def fX12_found_3 (N : Nat) : Nat → Nat → Int32 → Int32 → Int32 → Int32 → Mem → Option Int32
  | 0, _, _, _, _, _, _ => none
  | n + 1, x0, x1, x2, x3, x4, m => if x2 ≤ x4 then (some (-1 : Int32)) else (if (x1 + x4) < 0 ∨ (lay x0).2 ≤ (x1 + x4).toNatClampNeg then none else (if (m.1 x0 (x1 + x4).toNatClampNeg) = x3 then (some x4) else (fX12_found_3 N n x0 x1 x2 x3 (x4 + (1 : Int32)) m)))
set_option maxHeartbeats 4000000 in
set_option maxRecDepth 100000 in
theorem tX12_found_3 (N : Nat) {l : Launch} {D : va_G} {ca : Nat → ClassId} {ad : Nat → Nat} {p : Program} {e : Env} {s : State} {mm : MethodId} {args : Array Value} {below : List Frame} {meth : Method} {c : Code}  (hn : HNr ca) (X : CX p s mm args meth c cX12_found 5 RX12 D ca ad (WA ca ad s.heap.size)) (hr : meth.sig.returnType = (some .int)) (fin : Int32) (m0 : Mem)  : ∀ (n : Nat) (x0 : Nat) (x1 : Int32) (x2 : Int32) (x3 : Int32) (x4 : Int32) (m : Mem) (H : Heap) (locs : List Loc) (ls : Array Slot), ly ca x0 = (1, (lay x0).2) → IW D ca ad (WA ca ad s.heap.size) s m H locs → lv_has ls 5 [(0, .ref (ad x0)), (1, .int x1), (2, .int x2), (3, .int x3), (4, .int x4)] → fX12_found_3 N n x0 x1 x2 x3 x4 m = some fin → m = m0 → W p l e rmX12_found s mm args below meth c H locs 0 0 (MQ below (QI D ca ad s.heap.size fin m0) args s 0 0 (WA ca ad s.heap.size)) (F0 mm 3 ls []) := by
  have hx := X.1
  have hb := X.2.1
  intro n
  induction n with
  | zero => intro x0 x1 x2 x3 x4 m H locs ls hx0 hI hl hm hpm
            exact absurd hm (by intro q; cases q)
  | succ n ih =>
    intro x0 x1 x2 x3 x4 m H locs ls hx0 hI hl hm hpm
    have hm : (if x2 ≤ x4 then (some (-1 : Int32)) else (if (x1 + x4) < 0 ∨ (lay x0).2 ≤ (x1 + x4).toNatClampNeg then none else (if (m.1 x0 (x1 + x4).toNatClampNeg) = x3 then (some x4) else (fX12_found_3 N n x0 x1 x2 x3 (x4 + (1 : Int32)) m)))) = some fin := hm
    refine lv_iload hx hb dX12_found_3 (lv_at hl 4 rfl) ?_
    refine lv_iload_n hx hb dX12_found_5 rfl (lv_at hl 2 rfl) ?_
    refine lv_icmp_ge (tgt := 28) hx hb dX12_found_6 (by decide) (fun c1 => ?_) (fun c1 => ?_)
    · have hm := g_t c1 hm
      refine lv_iconst (v := (-1 : Int32)) hx hb dX12_found_28 (by decide) ?_
      exact rI X hI hr (g_1 hm) hpm dX12_found_29
    · have hm := g_f c1 hm
      refine lv_aload_n hx hb dX12_found_9 rfl (lv_at hl 0 rfl) ?_
      refine lv_iload_n hx hb dX12_found_10 rfl (lv_at hl 1 rfl) ?_
      refine lv_iload hx hb dX12_found_11 (lv_at hl 4 rfl) ?_
      refine lv_iadd hx hb dX12_found_13 ?_
      obtain ⟨g2, hm⟩ := g_no hm
      refine aI X hI hx0 g2 dX12_found_14 ?_
      refine lv_iload_n hx hb dX12_found_15 rfl (lv_at hl 3 rfl) ?_
      refine lv_icmp_ne (tgt := 22) hx hb dX12_found_16 (by decide) (fun c3 => ?_) (fun c3 => ?_)
      · have hm := g_f c3 hm
        refine lv_iinc (v := (x4 + (1 : Int32))) (lv' := [(4, .int (x4 + (1 : Int32))), (0, .ref (ad x0)), (1, .int x1), (2, .int x2), (3, .int x3)]) hx hb dX12_found_22 hl (k := 4) rfl rfl (by decide) rfl (fun ls hl => ?_)
        refine lv_goto (tgt := 3) hx hb dX12_found_25 (by decide) ?_
        exact ih x0 x1 x2 x3 (x4 + (1 : Int32)) m H locs ls hx0 hI (lv_sub hl [1, 2, 3, 4, 0] rfl) hm hpm
      · have hm := g_t c3 hm
        refine lv_iload hx hb dX12_found_19 (lv_at hl 4 rfl) ?_
        exact rI X hI hr (g_1 hm) hpm dX12_found_21
def fX12_found (N : Nat) (x0 : Nat) (x1 : Int32) (x2 : Int32) (x3 : Int32) (m : Mem) : Option Int32 := fX12_found_3 N N x0 x1 x2 x3 (0 : Int32) m
set_option maxHeartbeats 4000000 in
set_option maxRecDepth 100000 in
theorem ctX12_found {l : Launch} {D : va_G} {ca : Nat → ClassId} {ad : Nat → Nat} (N : Nat) (x0 : Nat) (x1 : Int32) (x2 : Int32) (x3 : Int32) (hx0 : ly ca x0 = (1, (lay x0).2)) (hn : HNr ca) (m : Mem) (fin : Int32) (hm : fX12_found N x0 x1 x2 x3 m = some fin) : CI l D ca ad yX12_found cwX12_found rmX12_found [.ref (ad x0), .int x1, .int x2, .int x3] m fin m := by
  refine start (by decide) (Nat.le_of_ble_eq_true rfl) ?_
  intro p e s mm args below meth c H locs ls X hI hr hl
  have X : CX p s mm args meth c cX12_found 5 RX12 D ca ad (WA ca ad s.heap.size) := X
  have hx := X.1
  have hb := X.2.1
  have hl : lv_has ls 5 [(0, .ref (ad x0)), (1, .int x1), (2, .int x2), (3, .int x3)] := hl
  have hm : (fX12_found_3 N N x0 x1 x2 x3 (0 : Int32) m) = some fin := hm
  have hpm : m = m := rfl
  refine lv_iconst (v := (0 : Int32)) hx hb dX12_found_0 (by decide) ?_
  refine lv_istore (lv' := [(4, .int (0 : Int32)), (0, .ref (ad x0)), (1, .int x1), (2, .int x2), (3, .int x3)]) hx hb dX12_found_1 hl (by decide) rfl (fun ls hl => ?_)
  exact tX12_found_3 N hn X hr fin m  N x0 x1 x2 x3 (0 : Int32) m H locs ls hx0 hI (lv_sub hl [1, 2, 3, 4, 0] rfl) hm hpm
abbrev rmX12_fresh : Room := { frames := 6, cells := 0, slots := 0, locals := 134 }
def fX12_fresh_44 (N : Nat)  (m : Mem) : Option (Int32 × Mem) := if (m.1 99 30) = 0 then ((fX12_token N m).bind (fun q7 => some ((m.1 99 29), q7))) else (some ((0 : Int32), m))
set_option maxHeartbeats 4000000 in
set_option maxRecDepth 100000 in
theorem tX12_fresh_44 (N : Nat) {l : Launch} {D : va_G} {ca : Nat → ClassId} {ad : Nat → Nat} {p : Program} {e : Env} {s : State} {mm : MethodId} {args : Array Value} {below : List Frame} {meth : Method} {c : Code}  (hn : HNr ca) (X : CX p s mm args meth c cX12_fresh 5 RX12 D ca ad (WA ca ad s.heap.size)) (hr : meth.sig.returnType = (some .int)) (fin : (Int32 × Mem))  : ∀  (m : Mem) (H : Heap) (locs : List Loc) (ls : Array Slot), IW D ca ad (WA ca ad s.heap.size) s m H locs → lv_has ls 5 [(0, .ref (ad 99))] → fX12_fresh_44 N m = some fin → W p l e rmX12_fresh s mm args below meth c H locs 0 0 (MQ below (QI D ca ad s.heap.size fin.1 fin.2) args s 0 0 (WA ca ad s.heap.size)) (F0 mm 44 ls []) := by
  have hx := X.1
  have hb := X.2.1
  intro m H locs ls hI hl hm
  have hm : (if (m.1 99 30) = 0 then ((fX12_token N m).bind (fun q7 => some ((m.1 99 29), q7))) else (some ((0 : Int32), m))) = some fin := hm
  refine lv_aload_n hx hb dX12_fresh_44 rfl (lv_at hl 0 rfl) ?_
  refine gI X hI fdX12_208 (la_99 hn) dX12_fresh_45 ?_
  refine lv_if_eq (tgt := 53) hx hb dX12_fresh_48 (by decide) (fun c6 => ?_) (fun c6 => ?_)
  · have hm := g_t c6 hm
    refine lv_aload_n hx hb dX12_fresh_53 rfl (lv_at hl 0 rfl) ?_
    refine gI X hI fdX12_183 (la_99 hn) dX12_fresh_54 ?_
    refine lv_istore (lv' := [(4, .int (m.1 99 29)), (0, .ref (ad 99))]) hx hb dX12_fresh_57 hl (by decide) rfl (fun ls hl => ?_)
    refine lv_aload_n hx hb dX12_fresh_59 rfl (lv_at hl 1 rfl) ?_
    obtain ⟨q7, h8, hm⟩ := g_b hm
    refine backV X hI (runV X hI (ctX12_token N  hn _ _ h8 _) mdX12_214 (la_99 hn) rfl ⟨rfl, rfl⟩ ⟨Nat.le_of_ble_eq_true rfl, Nat.le_of_ble_eq_true rfl⟩ rfl hl.1 rfl (Nat.le_of_ble_eq_true rfl) dX12_fresh_60) (fun H locs hI => ?_)
    refine lv_iload hx hb dX12_fresh_63 (lv_at hl 0 rfl) ?_
    exact rI X hI hr (g_p hm).1 (g_p hm).2 dX12_fresh_65
  · have hm := g_f c6 hm
    refine lv_iconst (v := (0 : Int32)) hx hb dX12_fresh_51 (by decide) ?_
    exact rI X hI hr (g_p hm).1 (g_p hm).2 dX12_fresh_52
def fX12_fresh (N : Nat) (x1 : Nat) (x2 : Int32) (x3 : Int32) (m : Mem) : Option (Int32 × Mem) := if (m.1 99 30) = 0 then (if (m.1 99 28) = (1 : Int32) then ((fX12_found N x1 x2 x3 (m.1 99 29) m).bind (fun q3 => if q3 = (-1 : Int32) then (fX12_fresh_44 N m) else ((fX12_wrong (3 : Int32) m).bind (fun q9 => fX12_fresh_44 N q9)))) else ((fX12_wrong (1 : Int32) m).bind (fun q11 => fX12_fresh_44 N q11))) else (some ((0 : Int32), m))
set_option maxHeartbeats 4000000 in
set_option maxRecDepth 100000 in
theorem ctX12_fresh {l : Launch} {D : va_G} {ca : Nat → ClassId} {ad : Nat → Nat} (N : Nat) (x1 : Nat) (x2 : Int32) (x3 : Int32) (hx1 : ly ca x1 = (1, (lay x1).2)) (hn : HNr ca) (m : Mem) (fin : (Int32 × Mem)) (hm : fX12_fresh N x1 x2 x3 m = some fin) : CI l D ca ad yX12_fresh cwX12_fresh rmX12_fresh [.ref (ad 99), .ref (ad x1), .int x2, .int x3] m fin.1 fin.2 := by
  refine start (by decide) (Nat.le_of_ble_eq_true rfl) ?_
  intro p e s mm args below meth c H locs ls X hI hr hl
  have X : CX p s mm args meth c cX12_fresh 5 RX12 D ca ad (WA ca ad s.heap.size) := X
  have hx := X.1
  have hb := X.2.1
  have hl : lv_has ls 5 [(0, .ref (ad 99)), (1, .ref (ad x1)), (2, .int x2), (3, .int x3)] := hl
  have hm : (if (m.1 99 30) = 0 then (if (m.1 99 28) = (1 : Int32) then ((fX12_found N x1 x2 x3 (m.1 99 29) m).bind (fun q3 => if q3 = (-1 : Int32) then (fX12_fresh_44 N m) else ((fX12_wrong (3 : Int32) m).bind (fun q9 => fX12_fresh_44 N q9)))) else ((fX12_wrong (1 : Int32) m).bind (fun q11 => fX12_fresh_44 N q11))) else (some ((0 : Int32), m))) = some fin := hm
  refine lv_aload_n hx hb dX12_fresh_0 rfl (lv_at hl 0 rfl) ?_
  refine gI X hI fdX12_208 (la_99 hn) dX12_fresh_1 ?_
  refine lv_if_eq (tgt := 9) hx hb dX12_fresh_4 (by decide) (fun c1 => ?_) (fun c1 => ?_)
  · have hm := g_t c1 hm
    refine lv_aload_n hx hb dX12_fresh_9 rfl (lv_at hl 0 rfl) ?_
    refine gI X hI fdX12_173 (la_99 hn) dX12_fresh_10 ?_
    refine lv_iconst (v := (1 : Int32)) hx hb dX12_fresh_13 (by decide) ?_
    refine lv_icmp_eq (tgt := 25) hx hb dX12_fresh_14 (by decide) (fun c2 => ?_) (fun c2 => ?_)
    · have hm := g_t c2 hm
      refine lv_aload_n hx hb dX12_fresh_25 rfl (lv_at hl 1 rfl) ?_
      refine lv_iload_n hx hb dX12_fresh_26 rfl (lv_at hl 2 rfl) ?_
      refine lv_iload_n hx hb dX12_fresh_27 rfl (lv_at hl 3 rfl) ?_
      refine lv_aload_n hx hb dX12_fresh_28 rfl (lv_at hl 0 rfl) ?_
      refine gI X hI fdX12_183 (la_99 hn) dX12_fresh_29 ?_
      obtain ⟨q3, h4, hm⟩ := g_b hm
      refine backI X hI (runS X hI (ctX12_found N x1 x2 x3 (m.1 99 29) (ly_self hx1) hn _ _ h4 _) msX12_220 ⟨rfl, rfl⟩ ⟨Nat.le_of_ble_eq_true rfl, Nat.le_of_ble_eq_true rfl⟩ rfl hl.1 rfl (Nat.le_of_ble_eq_true rfl) dX12_fresh_32) (fun H locs hI => ?_)
      refine lv_iconst (v := (-1 : Int32)) hx hb dX12_fresh_35 (by decide) ?_
      refine lv_icmp_eq (tgt := 44) hx hb dX12_fresh_36 (by decide) (fun c5 => ?_) (fun c5 => ?_)
      · have hm := g_t c5 hm
        exact tX12_fresh_44 N hn X hr fin  m H locs ls hI (lv_sub hl [0] rfl) hm
      · have hm := g_f c5 hm
        refine lv_aload_n hx hb dX12_fresh_39 rfl (lv_at hl 0 rfl) ?_
        refine lv_iconst (v := (3 : Int32)) hx hb dX12_fresh_40 (by decide) ?_
        obtain ⟨q9, h10, hm⟩ := g_b hm
        refine backV X hI (runV X hI (ctX12_wrong (3 : Int32)  hn _ _ h10 _) mdX12_217 (la_99 hn) rfl ⟨rfl, rfl⟩ ⟨Nat.le_of_ble_eq_true rfl, Nat.le_of_ble_eq_true rfl⟩ rfl hl.1 rfl (Nat.le_of_ble_eq_true rfl) dX12_fresh_41) (fun H locs hI => ?_)
        exact tX12_fresh_44 N hn X hr fin  q9 H locs ls hI (lv_sub hl [0] rfl) hm
    · have hm := g_f c2 hm
      refine lv_aload_n hx hb dX12_fresh_17 rfl (lv_at hl 0 rfl) ?_
      refine lv_iconst (v := (1 : Int32)) hx hb dX12_fresh_18 (by decide) ?_
      obtain ⟨q11, h12, hm⟩ := g_b hm
      refine backV X hI (runV X hI (ctX12_wrong (1 : Int32)  hn _ _ h12 _) mdX12_217 (la_99 hn) rfl ⟨rfl, rfl⟩ ⟨Nat.le_of_ble_eq_true rfl, Nat.le_of_ble_eq_true rfl⟩ rfl hl.1 rfl (Nat.le_of_ble_eq_true rfl) dX12_fresh_19) (fun H locs hI => ?_)
      refine lv_goto (tgt := 44) hx hb dX12_fresh_22 (by decide) ?_
      exact tX12_fresh_44 N hn X hr fin  q11 H locs ls hI (lv_sub hl [0] rfl) hm
  · have hm := g_f c1 hm
    refine lv_iconst (v := (0 : Int32)) hx hb dX12_fresh_7 (by decide) ?_
    exact rI X hI hr (g_p hm).1 (g_p hm).2 dX12_fresh_8
abbrev rmX12_fresher : Room := { frames := 0, cells := 0, slots := 0, locals := 0 }
def fX12_fresher  (x1 : Int32) (m : Mem) : Option Int32 := if ((8 : Int32) + x1) < 0 ∨ 16 ≤ ((8 : Int32) + x1).toNatClampNeg then none else (some (m.1 101 ((8 : Int32) + x1).toNatClampNeg))
set_option maxHeartbeats 4000000 in
set_option maxRecDepth 100000 in
theorem ctX12_fresher {l : Launch} {D : va_G} {ca : Nat → ClassId} {ad : Nat → Nat}  (x1 : Int32)  (hn : HNr ca) (m : Mem) (fin : Int32) (hm : fX12_fresher x1 m = some fin) : CI l D ca ad yX12_fresher cwX12_fresher rmX12_fresher [.ref (ad 99), .int x1] m fin m := by
  refine start (by decide) (Nat.le_of_ble_eq_true rfl) ?_
  intro p e s mm args below meth c H locs ls X hI hr hl
  have X : CX p s mm args meth c cX12_fresher 2 RX12 D ca ad (WA ca ad s.heap.size) := X
  have hx := X.1
  have hb := X.2.1
  have hl : lv_has ls 2 [(0, .ref (ad 99)), (1, .int x1)] := hl
  have hm : (if ((8 : Int32) + x1) < 0 ∨ 16 ≤ ((8 : Int32) + x1).toNatClampNeg then none else (some (m.1 101 ((8 : Int32) + x1).toNatClampNeg))) = some fin := hm
  have hpm : m = m := rfl
  refine lv_aload_n hx hb dX12_fresher_0 rfl (lv_at hl 0 rfl) ?_
  refine gR X hI fdX12_13 (la_99 hn) rf12_3 dX12_fresher_1 ?_
  refine lv_bipush (v := (8 : Int32)) hx hb dX12_fresher_4 (by decide) ?_
  refine lv_iload_n hx hb dX12_fresher_6 rfl (lv_at hl 1 rfl) ?_
  refine lv_iadd hx hb dX12_fresher_7 ?_
  obtain ⟨g1, hm⟩ := g_no hm
  refine aI X hI (la_101 hn) g1 dX12_fresher_8 ?_
  exact rI X hI hr (g_1 hm) hpm dX12_fresher_9
abbrev rmX12_reads : Room := { frames := 0, cells := 0, slots := 0, locals := 0 }
def fX12_reads  (x1 : Int32) (x2 : Int32) (m : Mem) : Option Mem := if ((8 : Int32) + x1) < 0 ∨ 16 ≤ ((8 : Int32) + x1).toNatClampNeg then none else (some (mI m 101 ((8 : Int32) + x1).toNatClampNeg x2))
set_option maxHeartbeats 4000000 in
set_option maxRecDepth 100000 in
theorem ctX12_reads {l : Launch} {D : va_G} {ca : Nat → ClassId} {ad : Nat → Nat}  (x1 : Int32) (x2 : Int32)  (hn : HNr ca) (m : Mem) (fin : Mem) (hm : fX12_reads x1 x2 m = some fin) : CV l D ca ad yX12_reads cwX12_reads rmX12_reads [.ref (ad 99), .int x1, .int x2] m fin := by
  refine start (by decide) (Nat.le_of_ble_eq_true rfl) ?_
  intro p e s mm args below meth c H locs ls X hI hr hl
  have X : CX p s mm args meth c cX12_reads 3 RX12 D ca ad (WA ca ad s.heap.size) := X
  have hx := X.1
  have hb := X.2.1
  have hl : lv_has ls 3 [(0, .ref (ad 99)), (1, .int x1), (2, .int x2)] := hl
  have hm : (if ((8 : Int32) + x1) < 0 ∨ 16 ≤ ((8 : Int32) + x1).toNatClampNeg then none else (some (mI m 101 ((8 : Int32) + x1).toNatClampNeg x2))) = some fin := hm
  refine lv_aload_n hx hb dX12_reads_0 rfl (lv_at hl 0 rfl) ?_
  refine gR X hI fdX12_13 (la_99 hn) rf12_3 dX12_reads_1 ?_
  refine lv_bipush (v := (8 : Int32)) hx hb dX12_reads_4 (by decide) ?_
  refine lv_iload_n hx hb dX12_reads_6 rfl (lv_at hl 1 rfl) ?_
  refine lv_iadd hx hb dX12_reads_7 ?_
  refine lv_iload_n hx hb dX12_reads_8 rfl (lv_at hl 2 rfl) ?_
  obtain ⟨g1, hm⟩ := g_no hm
  refine sI X hI (la_101 hn) g1 dX12_reads_9 (fun H locs hI => ?_)
  exact rV X hI hr (g_1 hm) dX12_reads_10
abbrev rmX12_atHand : Room := { frames := 1, cells := 0, slots := 0, locals := 24 }
def fX12_atHand_63 (N : Nat) (x4 : Int32) (m : Mem) : Option (Int32 × Mem) := if (m.1 99 30) = 0 then (some (x4, m)) else (some ((0 : Int32), m))
set_option maxHeartbeats 4000000 in
set_option maxRecDepth 100000 in
theorem tX12_atHand_63 (N : Nat) {l : Launch} {D : va_G} {ca : Nat → ClassId} {ad : Nat → Nat} {p : Program} {e : Env} {s : State} {mm : MethodId} {args : Array Value} {below : List Frame} {meth : Method} {c : Code}  (hn : HNr ca) (X : CX p s mm args meth c cX12_atHand 5 RX12 D ca ad (WA ca ad s.heap.size)) (hr : meth.sig.returnType = (some .int)) (fin : (Int32 × Mem))  : ∀ (x4 : Int32) (m : Mem) (H : Heap) (locs : List Loc) (ls : Array Slot), IW D ca ad (WA ca ad s.heap.size) s m H locs → lv_has ls 5 [(0, .ref (ad 99)), (4, .int x4)] → fX12_atHand_63 N x4 m = some fin → W p l e rmX12_atHand s mm args below meth c H locs 0 0 (MQ below (QI D ca ad s.heap.size fin.1 fin.2) args s 0 0 (WA ca ad s.heap.size)) (F0 mm 63 ls []) := by
  have hx := X.1
  have hb := X.2.1
  intro x4 m H locs ls hI hl hm
  have hm : (if (m.1 99 30) = 0 then (some (x4, m)) else (some ((0 : Int32), m))) = some fin := hm
  refine lv_aload_n hx hb dX12_atHand_63 rfl (lv_at hl 0 rfl) ?_
  refine gI X hI fdX12_208 (la_99 hn) dX12_atHand_64 ?_
  refine lv_if_eq (tgt := 74) hx hb dX12_atHand_67 (by decide) (fun c5 => ?_) (fun c5 => ?_)
  · have hm := g_t c5 hm
    refine lv_iload hx hb dX12_atHand_74 (lv_at hl 1 rfl) ?_
    exact rI X hI hr (g_p hm).1 (g_p hm).2 dX12_atHand_76
  · have hm := g_f c5 hm
    refine lv_iconst (v := (0 : Int32)) hx hb dX12_atHand_70 (by decide) ?_
    refine lv_goto (tgt := 76) hx hb dX12_atHand_71 (by decide) ?_
    exact rI X hI hr (g_p hm).1 (g_p hm).2 dX12_atHand_76
def fX12_atHand_43 (N : Nat) (y0 : Int32) (m : Mem) : Option (Int32 × Mem) := if (m.1 99 30) = 0 then (if y0 = (-1 : Int32) then ((fX12_wrong (4 : Int32) m).bind (fun q7 => fX12_atHand_63 N y0 q7)) else (fX12_atHand_63 N y0 m)) else (fX12_atHand_63 N y0 m)
set_option maxHeartbeats 4000000 in
set_option maxRecDepth 100000 in
theorem tX12_atHand_43 (N : Nat) {l : Launch} {D : va_G} {ca : Nat → ClassId} {ad : Nat → Nat} {p : Program} {e : Env} {s : State} {mm : MethodId} {args : Array Value} {below : List Frame} {meth : Method} {c : Code}  (hn : HNr ca) (X : CX p s mm args meth c cX12_atHand 5 RX12 D ca ad (WA ca ad s.heap.size)) (hr : meth.sig.returnType = (some .int)) (fin : (Int32 × Mem))  : ∀ (y0 : Int32) (m : Mem) (H : Heap) (locs : List Loc) (ls : Array Slot), IW D ca ad (WA ca ad s.heap.size) s m H locs → lv_has ls 5 [(0, .ref (ad 99))] → fX12_atHand_43 N y0 m = some fin → W p l e rmX12_atHand s mm args below meth c H locs 0 0 (MQ below (QI D ca ad s.heap.size fin.1 fin.2) args s 0 0 (WA ca ad s.heap.size)) (F0 mm 43 ls [.int y0]) := by
  have hx := X.1
  have hb := X.2.1
  intro y0 m H locs ls hI hl hm
  have hm : (if (m.1 99 30) = 0 then (if y0 = (-1 : Int32) then ((fX12_wrong (4 : Int32) m).bind (fun q7 => fX12_atHand_63 N y0 q7)) else (fX12_atHand_63 N y0 m)) else (fX12_atHand_63 N y0 m)) = some fin := hm
  refine lv_istore (lv' := [(4, .int y0), (0, .ref (ad 99))]) hx hb dX12_atHand_43 hl (by decide) rfl (fun ls hl => ?_)
  refine lv_aload_n hx hb dX12_atHand_45 rfl (lv_at hl 1 rfl) ?_
  refine gI X hI fdX12_208 (la_99 hn) dX12_atHand_46 ?_
  refine lv_if_ne (tgt := 63) hx hb dX12_atHand_49 (by decide) (fun c4 => ?_) (fun c4 => ?_)
  · have hm := g_f c4 hm
    exact tX12_atHand_63 N hn X hr fin  y0 m H locs ls hI (lv_sub hl [1, 0] rfl) hm
  · have hm := g_t c4 hm
    refine lv_iload hx hb dX12_atHand_52 (lv_at hl 0 rfl) ?_
    refine lv_iconst (v := (-1 : Int32)) hx hb dX12_atHand_54 (by decide) ?_
    refine lv_icmp_ne (tgt := 63) hx hb dX12_atHand_55 (by decide) (fun c6 => ?_) (fun c6 => ?_)
    · have hm := g_f c6 hm
      exact tX12_atHand_63 N hn X hr fin  y0 m H locs ls hI (lv_sub hl [1, 0] rfl) hm
    · have hm := g_t c6 hm
      refine lv_aload_n hx hb dX12_atHand_58 rfl (lv_at hl 1 rfl) ?_
      refine lv_iconst (v := (4 : Int32)) hx hb dX12_atHand_59 (by decide) ?_
      obtain ⟨q7, h8, hm⟩ := g_b hm
      refine backV X hI (runV X hI (ctX12_wrong (4 : Int32)  hn _ _ h8 _) mdX12_217 (la_99 hn) rfl ⟨rfl, rfl⟩ ⟨Nat.le_of_ble_eq_true rfl, Nat.le_of_ble_eq_true rfl⟩ rfl hl.1 rfl (Nat.le_of_ble_eq_true rfl) dX12_atHand_60) (fun H locs hI => ?_)
      exact tX12_atHand_63 N hn X hr fin  y0 q7 H locs ls hI (lv_sub hl [1, 0] rfl) hm
def fX12_atHand_22 (N : Nat) (x1 : Nat) (x2 : Int32) (x3 : Int32) (m : Mem) : Option (Int32 × Mem) := if (m.1 99 30) = 0 then ((fX12_found N x1 x2 x3 (m.1 99 29) m).bind (fun q9 => fX12_atHand_43 N q9 m)) else (fX12_atHand_43 N (0 : Int32) m)
set_option maxHeartbeats 4000000 in
set_option maxRecDepth 100000 in
theorem tX12_atHand_22 (N : Nat) {l : Launch} {D : va_G} {ca : Nat → ClassId} {ad : Nat → Nat} {p : Program} {e : Env} {s : State} {mm : MethodId} {args : Array Value} {below : List Frame} {meth : Method} {c : Code}  (hn : HNr ca) (X : CX p s mm args meth c cX12_atHand 5 RX12 D ca ad (WA ca ad s.heap.size)) (hr : meth.sig.returnType = (some .int)) (fin : (Int32 × Mem))  : ∀ (x1 : Nat) (x2 : Int32) (x3 : Int32) (m : Mem) (H : Heap) (locs : List Loc) (ls : Array Slot), ly ca x1 = (1, (lay x1).2) → IW D ca ad (WA ca ad s.heap.size) s m H locs → lv_has ls 5 [(0, .ref (ad 99)), (1, .ref (ad x1)), (2, .int x2), (3, .int x3)] → fX12_atHand_22 N x1 x2 x3 m = some fin → W p l e rmX12_atHand s mm args below meth c H locs 0 0 (MQ below (QI D ca ad s.heap.size fin.1 fin.2) args s 0 0 (WA ca ad s.heap.size)) (F0 mm 22 ls []) := by
  have hx := X.1
  have hb := X.2.1
  intro x1 x2 x3 m H locs ls hx1 hI hl hm
  have hm : (if (m.1 99 30) = 0 then ((fX12_found N x1 x2 x3 (m.1 99 29) m).bind (fun q9 => fX12_atHand_43 N q9 m)) else (fX12_atHand_43 N (0 : Int32) m)) = some fin := hm
  refine lv_aload_n hx hb dX12_atHand_22 rfl (lv_at hl 0 rfl) ?_
  refine gI X hI fdX12_208 (la_99 hn) dX12_atHand_23 ?_
  refine lv_if_ne (tgt := 42) hx hb dX12_atHand_26 (by decide) (fun c3 => ?_) (fun c3 => ?_)
  · have hm := g_f c3 hm
    refine lv_iconst (v := (0 : Int32)) hx hb dX12_atHand_42 (by decide) ?_
    exact tX12_atHand_43 N hn X hr fin  (0 : Int32) m H locs ls hI (lv_sub hl [0] rfl) hm
  · have hm := g_t c3 hm
    refine lv_aload_n hx hb dX12_atHand_29 rfl (lv_at hl 1 rfl) ?_
    refine lv_iload_n hx hb dX12_atHand_30 rfl (lv_at hl 2 rfl) ?_
    refine lv_iload_n hx hb dX12_atHand_31 rfl (lv_at hl 3 rfl) ?_
    refine lv_aload_n hx hb dX12_atHand_32 rfl (lv_at hl 0 rfl) ?_
    refine gI X hI fdX12_183 (la_99 hn) dX12_atHand_33 ?_
    obtain ⟨q9, h10, hm⟩ := g_b hm
    refine backI X hI (runS X hI (ctX12_found N x1 x2 x3 (m.1 99 29) (ly_self hx1) hn _ _ h10 _) msX12_220 ⟨rfl, rfl⟩ ⟨Nat.le_of_ble_eq_true rfl, Nat.le_of_ble_eq_true rfl⟩ rfl hl.1 rfl (Nat.le_of_ble_eq_true rfl) dX12_atHand_36) (fun H locs hI => ?_)
    refine lv_goto (tgt := 43) hx hb dX12_atHand_39 (by decide) ?_
    exact tX12_atHand_43 N hn X hr fin  q9 m H locs ls hI (lv_sub hl [0] rfl) hm
def fX12_atHand (N : Nat) (x1 : Nat) (x2 : Int32) (x3 : Int32) (m : Mem) : Option (Int32 × Mem) := if (m.1 99 30) = 0 then (if (m.1 99 28) = (1 : Int32) then (fX12_atHand_22 N x1 x2 x3 m) else ((fX12_wrong (1 : Int32) m).bind (fun q11 => fX12_atHand_22 N x1 x2 x3 q11))) else (some ((0 : Int32), m))
set_option maxHeartbeats 4000000 in
set_option maxRecDepth 100000 in
theorem ctX12_atHand {l : Launch} {D : va_G} {ca : Nat → ClassId} {ad : Nat → Nat} (N : Nat) (x1 : Nat) (x2 : Int32) (x3 : Int32) (hx1 : ly ca x1 = (1, (lay x1).2)) (hn : HNr ca) (m : Mem) (fin : (Int32 × Mem)) (hm : fX12_atHand N x1 x2 x3 m = some fin) : CI l D ca ad yX12_atHand cwX12_atHand rmX12_atHand [.ref (ad 99), .ref (ad x1), .int x2, .int x3] m fin.1 fin.2 := by
  refine start (by decide) (Nat.le_of_ble_eq_true rfl) ?_
  intro p e s mm args below meth c H locs ls X hI hr hl
  have X : CX p s mm args meth c cX12_atHand 5 RX12 D ca ad (WA ca ad s.heap.size) := X
  have hx := X.1
  have hb := X.2.1
  have hl : lv_has ls 5 [(0, .ref (ad 99)), (1, .ref (ad x1)), (2, .int x2), (3, .int x3)] := hl
  have hm : (if (m.1 99 30) = 0 then (if (m.1 99 28) = (1 : Int32) then (fX12_atHand_22 N x1 x2 x3 m) else ((fX12_wrong (1 : Int32) m).bind (fun q11 => fX12_atHand_22 N x1 x2 x3 q11))) else (some ((0 : Int32), m))) = some fin := hm
  refine lv_aload_n hx hb dX12_atHand_0 rfl (lv_at hl 0 rfl) ?_
  refine gI X hI fdX12_208 (la_99 hn) dX12_atHand_1 ?_
  refine lv_if_eq (tgt := 9) hx hb dX12_atHand_4 (by decide) (fun c1 => ?_) (fun c1 => ?_)
  · have hm := g_t c1 hm
    refine lv_aload_n hx hb dX12_atHand_9 rfl (lv_at hl 0 rfl) ?_
    refine gI X hI fdX12_173 (la_99 hn) dX12_atHand_10 ?_
    refine lv_iconst (v := (1 : Int32)) hx hb dX12_atHand_13 (by decide) ?_
    refine lv_icmp_eq (tgt := 22) hx hb dX12_atHand_14 (by decide) (fun c2 => ?_) (fun c2 => ?_)
    · have hm := g_t c2 hm
      exact tX12_atHand_22 N hn X hr fin  x1 x2 x3 m H locs ls hx1 hI (lv_sub hl [0, 1, 2, 3] rfl) hm
    · have hm := g_f c2 hm
      refine lv_aload_n hx hb dX12_atHand_17 rfl (lv_at hl 0 rfl) ?_
      refine lv_iconst (v := (1 : Int32)) hx hb dX12_atHand_18 (by decide) ?_
      obtain ⟨q11, h12, hm⟩ := g_b hm
      refine backV X hI (runV X hI (ctX12_wrong (1 : Int32)  hn _ _ h12 _) mdX12_217 (la_99 hn) rfl ⟨rfl, rfl⟩ ⟨Nat.le_of_ble_eq_true rfl, Nat.le_of_ble_eq_true rfl⟩ rfl hl.1 rfl (Nat.le_of_ble_eq_true rfl) dX12_atHand_19) (fun H locs hI => ?_)
      exact tX12_atHand_22 N hn X hr fin  x1 x2 x3 q11 H locs ls hx1 hI (lv_sub hl [0, 1, 2, 3] rfl) hm
  · have hm := g_f c1 hm
    refine lv_iconst (v := (0 : Int32)) hx hb dX12_atHand_7 (by decide) ?_
    exact rI X hI hr (g_p hm).1 (g_p hm).2 dX12_atHand_8
