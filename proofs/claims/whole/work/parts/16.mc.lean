abbrev rmX8_readPipe : Room := { frames := 4, cells := 0, slots := 0, locals := 91 }
def fX8_readPipe_67 (N : Nat) (x1 : Nat) (x2 : Nat) (m : Mem) : Option (Int32 × Mem) := (fX8_readToldName N (x1 + 3) x2 (1 : Int32) m).bind (fun q8 => if q8.1 = 0 then (some ((0 : Int32), q8.2)) else ((fX8_readCell N x2 (2 : Int32) (1 : Int32) (9 : Int32) q8.2).bind (fun q11 => if q11.1 = 0 then (some ((0 : Int32), q11.2)) else ((fX9_close x2 q11.2).bind (fun q14 => if q14.1 = 0 then (some ((0 : Int32), q14.2)) else (some ((1 : Int32), q14.2)))))))
set_option maxHeartbeats 4000000 in
set_option maxRecDepth 100000 in
theorem tX8_readPipe_67 (N : Nat) {l : Launch} {D : va_G} {ca : Nat → ClassId} {ad : Nat → Nat} {p : Program} {e : Env} {s : State} {mm : MethodId} {args : Array Value} {below : List Frame} {meth : Method} {c : Code}  (hn : HNc ca) (X : CX p s mm args meth c cX8_readPipe 3 RX8 D ca ad (WA ca ad s.heap.size)) (hr : meth.sig.returnType = (some .boolean)) (fin : (Int32 × Mem))  : ∀ (x1 : Nat) (x2 : Nat) (m : Mem) (H : Heap) (locs : List Loc) (ls : Array Slot), ly ca x1 = (0, 6) → ly ca x2 = (0, 9) → IW D ca ad (WA ca ad s.heap.size) s m H locs → lv_has ls 3 [(0, .ref (ad 2)), (1, .ref (ad x1)), (2, .ref (ad x2))] → fX8_readPipe_67 N x1 x2 m = some fin → W p l e rmX8_readPipe s mm args below meth c H locs 0 0 (MQ below (QI D ca ad s.heap.size fin.1 fin.2) args s 0 0 (WA ca ad s.heap.size)) (F0 mm 67 ls []) := by
  have hx := X.1
  have hb := X.2.1
  intro x1 x2 m H locs ls hx1 hx2 hI hl hm
  have hm : ((fX8_readToldName N (x1 + 3) x2 (1 : Int32) m).bind (fun q8 => if q8.1 = 0 then (some ((0 : Int32), q8.2)) else ((fX8_readCell N x2 (2 : Int32) (1 : Int32) (9 : Int32) q8.2).bind (fun q11 => if q11.1 = 0 then (some ((0 : Int32), q11.2)) else ((fX9_close x2 q11.2).bind (fun q14 => if q14.1 = 0 then (some ((0 : Int32), q14.2)) else (some ((1 : Int32), q14.2)))))))) = some fin := hm
  refine lv_aload_n hx hb dX8_readPipe_67 rfl (lv_at hl 0 rfl) ?_
  refine lv_aload_n hx hb dX8_readPipe_68 rfl (lv_at hl 1 rfl) ?_
  refine gR X hI fdX8_67 hx1 rf6_1 dX8_readPipe_69 ?_
  refine lv_aload_n hx hb dX8_readPipe_72 rfl (lv_at hl 2 rfl) ?_
  refine lv_iconst (v := (1 : Int32)) hx hb dX8_readPipe_73 (by decide) ?_
  obtain ⟨q8, h9, hm⟩ := g_b hm
  refine backI X hI (runV X hI (ctX8_readToldName N (x1 + 3) x2 (1 : Int32) (lf6_1 hn hx1) hx2 hn _ _ h9 _) mdX8_129 (la_2 hn) rfl ⟨rfl, rfl⟩ ⟨Nat.le_of_ble_eq_true rfl, Nat.le_of_ble_eq_true rfl⟩ rfl hl.1 rfl (Nat.le_of_ble_eq_true rfl) dX8_readPipe_74) (fun H locs hI => ?_)
  refine lv_if_eq (tgt := 103) hx hb dX8_readPipe_77 (by decide) (fun c10 => ?_) (fun c10 => ?_)
  · have hm := g_t c10 hm
    refine lv_iconst (v := (0 : Int32)) hx hb dX8_readPipe_103 (by decide) ?_
    exact rZ X hI hr (by decide) (g_p hm).1 (g_p hm).2 dX8_readPipe_104
  · have hm := g_f c10 hm
    refine lv_aload_n hx hb dX8_readPipe_80 rfl (lv_at hl 0 rfl) ?_
    refine lv_aload_n hx hb dX8_readPipe_81 rfl (lv_at hl 2 rfl) ?_
    refine lv_iconst (v := (2 : Int32)) hx hb dX8_readPipe_82 (by decide) ?_
    refine lv_iconst (v := (1 : Int32)) hx hb dX8_readPipe_83 (by decide) ?_
    refine lv_bipush (v := (9 : Int32)) hx hb dX8_readPipe_84 (by decide) ?_
    obtain ⟨q11, h12, hm⟩ := g_b hm
    refine backI X hI (runV X hI (ctX8_readCell N x2 (2 : Int32) (1 : Int32) (9 : Int32) hx2 hn _ _ h12 _) mdX8_119 (la_2 hn) rfl ⟨rfl, rfl⟩ ⟨Nat.le_of_ble_eq_true rfl, Nat.le_of_ble_eq_true rfl⟩ rfl hl.1 rfl (Nat.le_of_ble_eq_true rfl) dX8_readPipe_86) (fun H locs hI => ?_)
    refine lv_if_eq (tgt := 103) hx hb dX8_readPipe_89 (by decide) (fun c13 => ?_) (fun c13 => ?_)
    · have hm := g_t c13 hm
      refine lv_iconst (v := (0 : Int32)) hx hb dX8_readPipe_103 (by decide) ?_
      exact rZ X hI hr (by decide) (g_p hm).1 (g_p hm).2 dX8_readPipe_104
    · have hm := g_f c13 hm
      refine lv_aload_n hx hb dX8_readPipe_92 rfl (lv_at hl 2 rfl) ?_
      obtain ⟨q14, h15, hm⟩ := g_b hm
      refine backI X hI (runV X hI (ctX9_close x2 hx2 hn _ _ h15 _) mdX8_123 hx2 rfl ⟨rfl, rfl⟩ ⟨Nat.le_of_ble_eq_true rfl, Nat.le_of_ble_eq_true rfl⟩ rfl hl.1 rfl (Nat.le_of_ble_eq_true rfl) dX8_readPipe_93) (fun H locs hI => ?_)
      refine lv_if_eq (tgt := 103) hx hb dX8_readPipe_96 (by decide) (fun c16 => ?_) (fun c16 => ?_)
      · have hm := g_t c16 hm
        refine lv_iconst (v := (0 : Int32)) hx hb dX8_readPipe_103 (by decide) ?_
        exact rZ X hI hr (by decide) (g_p hm).1 (g_p hm).2 dX8_readPipe_104
      · have hm := g_f c16 hm
        refine lv_iconst (v := (1 : Int32)) hx hb dX8_readPipe_99 (by decide) ?_
        refine lv_goto (tgt := 104) hx hb dX8_readPipe_100 (by decide) ?_
        exact rZ X hI hr (by decide) (g_p hm).1 (g_p hm).2 dX8_readPipe_104
def fX8_readPipe (N : Nat) (x1 : Nat) (x2 : Nat) (m : Mem) : Option (Int32 × Mem) := (fX8_openRow N x2 m).bind (fun q1 => if q1.1 = 0 then (some ((0 : Int32), q1.2)) else ((fX8_readToldName N (x1 + 3) x2 (0 : Int32) q1.2).bind (fun q4 => if q4.1 = 0 then (some ((0 : Int32), q4.2)) else (if (q4.2.1 5 4) = (-3 : Int32) then ((fX9_find N (x1 + 3) (q4.2.1 5 6) q4.2).bind (fun q17 => (fX9_cell x2 (q4.2.1 x2 2) (0 : Int32) q4.2).bind (fun q19 => if q17 = q19 then ((fX8_fail (5 : Int32) q4.2).bind (fun q22 => if q22.1 = 0 ∨ q22.1 = 1 then (some (q22.1, q22.2)) else none)) else (fX8_readPipe_67 N x1 x2 q4.2)))) else (fX8_readPipe_67 N x1 x2 q4.2)))))
set_option maxHeartbeats 4000000 in
set_option maxRecDepth 100000 in
theorem ctX8_readPipe {l : Launch} {D : va_G} {ca : Nat → ClassId} {ad : Nat → Nat} (N : Nat) (x1 : Nat) (x2 : Nat) (hx1 : ly ca x1 = (0, 6)) (hx2 : ly ca x2 = (0, 9)) (hn : HNc ca) (m : Mem) (fin : (Int32 × Mem)) (hm : fX8_readPipe N x1 x2 m = some fin) : CI l D ca ad yX8_readPipe cwX8_readPipe rmX8_readPipe [.ref (ad 2), .ref (ad x1), .ref (ad x2)] m fin.1 fin.2 := by
  refine start (by decide) (Nat.le_of_ble_eq_true rfl) ?_
  intro p e s mm args below meth c H locs ls X hI hr hl
  have X : CX p s mm args meth c cX8_readPipe 3 RX8 D ca ad (WA ca ad s.heap.size) := X
  have hx := X.1
  have hb := X.2.1
  have hl : lv_has ls 3 [(0, .ref (ad 2)), (1, .ref (ad x1)), (2, .ref (ad x2))] := hl
  have hm : ((fX8_openRow N x2 m).bind (fun q1 => if q1.1 = 0 then (some ((0 : Int32), q1.2)) else ((fX8_readToldName N (x1 + 3) x2 (0 : Int32) q1.2).bind (fun q4 => if q4.1 = 0 then (some ((0 : Int32), q4.2)) else (if (q4.2.1 5 4) = (-3 : Int32) then ((fX9_find N (x1 + 3) (q4.2.1 5 6) q4.2).bind (fun q17 => (fX9_cell x2 (q4.2.1 x2 2) (0 : Int32) q4.2).bind (fun q19 => if q17 = q19 then ((fX8_fail (5 : Int32) q4.2).bind (fun q22 => if q22.1 = 0 ∨ q22.1 = 1 then (some (q22.1, q22.2)) else none)) else (fX8_readPipe_67 N x1 x2 q4.2)))) else (fX8_readPipe_67 N x1 x2 q4.2)))))) = some fin := hm
  refine lv_aload_n hx hb dX8_readPipe_0 rfl (lv_at hl 0 rfl) ?_
  refine lv_aload_n hx hb dX8_readPipe_1 rfl (lv_at hl 2 rfl) ?_
  obtain ⟨q1, h2, hm⟩ := g_b hm
  refine backI X hI (runV X hI (ctX8_openRow N x2 hx2 hn _ _ h2 _) mdX8_113 (la_2 hn) rfl ⟨rfl, rfl⟩ ⟨Nat.le_of_ble_eq_true rfl, Nat.le_of_ble_eq_true rfl⟩ rfl hl.1 rfl (Nat.le_of_ble_eq_true rfl) dX8_readPipe_2) (fun H locs hI => ?_)
  refine lv_if_eq (tgt := 21) hx hb dX8_readPipe_5 (by decide) (fun c3 => ?_) (fun c3 => ?_)
  · have hm := g_t c3 hm
    refine lv_iconst (v := (0 : Int32)) hx hb dX8_readPipe_21 (by decide) ?_
    exact rZ X hI hr (by decide) (g_p hm).1 (g_p hm).2 dX8_readPipe_22
  · have hm := g_f c3 hm
    refine lv_aload_n hx hb dX8_readPipe_8 rfl (lv_at hl 0 rfl) ?_
    refine lv_aload_n hx hb dX8_readPipe_9 rfl (lv_at hl 1 rfl) ?_
    refine gR X hI fdX8_67 hx1 rf6_1 dX8_readPipe_10 ?_
    refine lv_aload_n hx hb dX8_readPipe_13 rfl (lv_at hl 2 rfl) ?_
    refine lv_iconst (v := (0 : Int32)) hx hb dX8_readPipe_14 (by decide) ?_
    obtain ⟨q4, h5, hm⟩ := g_b hm
    refine backI X hI (runV X hI (ctX8_readToldName N (x1 + 3) x2 (0 : Int32) (lf6_1 hn hx1) hx2 hn _ _ h5 _) mdX8_129 (la_2 hn) rfl ⟨rfl, rfl⟩ ⟨Nat.le_of_ble_eq_true rfl, Nat.le_of_ble_eq_true rfl⟩ rfl hl.1 rfl (Nat.le_of_ble_eq_true rfl) dX8_readPipe_15) (fun H locs hI => ?_)
    refine lv_if_ne (tgt := 23) hx hb dX8_readPipe_18 (by decide) (fun c6 => ?_) (fun c6 => ?_)
    · have hm := g_f c6 hm
      refine lv_aload_n hx hb dX8_readPipe_23 rfl (lv_at hl 0 rfl) ?_
      refine gR X hI fdX8_30 (la_2 hn) rf8_0 dX8_readPipe_24 ?_
      refine gI X hI fdX8_46 (la_5 hn) dX8_readPipe_27 ?_
      refine lv_bipush (v := (-3 : Int32)) hx hb dX8_readPipe_30 (by decide) ?_
      refine lv_icmp_ne (tgt := 67) hx hb dX8_readPipe_32 (by decide) (fun c7 => ?_) (fun c7 => ?_)
      · have hm := g_f c7 hm
        exact tX8_readPipe_67 N hn X hr fin  x1 x2 q4.2 H locs ls hx1 hx2 hI (lv_sub hl [0, 1, 2] rfl) hm
      · have hm := g_t c7 hm
        refine lv_aload_n hx hb dX8_readPipe_35 rfl (lv_at hl 1 rfl) ?_
        refine gR X hI fdX8_67 hx1 rf6_1 dX8_readPipe_36 ?_
        refine lv_aload_n hx hb dX8_readPipe_39 rfl (lv_at hl 0 rfl) ?_
        refine gR X hI fdX8_30 (la_2 hn) rf8_0 dX8_readPipe_40 ?_
        refine gI X hI fdX8_133 (la_5 hn) dX8_readPipe_43 ?_
        obtain ⟨q17, h18, hm⟩ := g_b hm
        refine backI X hI (runV X hI (ctX9_find N (x1 + 3) (q4.2.1 5 6) (lf6_1 hn hx1) hn _ _ h18 _) mdX8_136 (lf6_1 hn hx1) rfl ⟨rfl, rfl⟩ ⟨Nat.le_of_ble_eq_true rfl, Nat.le_of_ble_eq_true rfl⟩ rfl hl.1 rfl (Nat.le_of_ble_eq_true rfl) dX8_readPipe_46) (fun H locs hI => ?_)
        refine lv_aload_n hx hb dX8_readPipe_49 rfl (lv_at hl 2 rfl) ?_
        refine lv_aload_n hx hb dX8_readPipe_50 rfl (lv_at hl 2 rfl) ?_
        refine gI X hI fdX8_140 hx2 dX8_readPipe_51 ?_
        refine lv_iconst (v := (0 : Int32)) hx hb dX8_readPipe_54 (by decide) ?_
        obtain ⟨q19, h20, hm⟩ := g_b hm
        refine backI X hI (runV X hI (ctX9_cell x2 (q4.2.1 x2 2) (0 : Int32) hx2 hn _ _ h20 _) mdX8_143 hx2 rfl ⟨rfl, rfl⟩ ⟨Nat.le_of_ble_eq_true rfl, Nat.le_of_ble_eq_true rfl⟩ rfl hl.1 rfl (Nat.le_of_ble_eq_true rfl) dX8_readPipe_55) (fun H locs hI => ?_)
        refine lv_icmp_ne (tgt := 67) hx hb dX8_readPipe_58 (by decide) (fun c21 => ?_) (fun c21 => ?_)
        · have hm := g_f c21 hm
          exact tX8_readPipe_67 N hn X hr fin  x1 x2 q4.2 H locs ls hx1 hx2 hI (lv_sub hl [0, 1, 2] rfl) hm
        · have hm := g_t c21 hm
          refine lv_aload_n hx hb dX8_readPipe_61 rfl (lv_at hl 0 rfl) ?_
          refine lv_iconst (v := (5 : Int32)) hx hb dX8_readPipe_62 (by decide) ?_
          obtain ⟨q22, h23, hm⟩ := g_b hm
          refine backI X hI (runV X hI (ctX8_fail (5 : Int32)  hn _ _ h23 _) mdX8_106 (la_2 hn) rfl ⟨rfl, rfl⟩ ⟨Nat.le_of_ble_eq_true rfl, Nat.le_of_ble_eq_true rfl⟩ rfl hl.1 rfl (Nat.le_of_ble_eq_true rfl) dX8_readPipe_63) (fun H locs hI => ?_)
          obtain ⟨g24, hm⟩ := g_is hm
          exact rZ X hI hr g24 (g_p hm).1 (g_p hm).2 dX8_readPipe_66
    · have hm := g_t c6 hm
      refine lv_iconst (v := (0 : Int32)) hx hb dX8_readPipe_21 (by decide) ?_
      exact rZ X hI hr (by decide) (g_p hm).1 (g_p hm).2 dX8_readPipe_22
abbrev rmX8_readFlinch : Room := { frames := 3, cells := 0, slots := 0, locals := 67 }
def fX8_readFlinch (N : Nat) (x1 : Nat) (m : Mem) : Option (Int32 × Mem) := if (m.1 x1 7) = 0 then ((fX10_advance N m).bind (fun q2 => (fX8_isNumber (0 : Int32) (100 : Int32) q2).bind (fun q4 => if q4.1 = 0 then (some ((0 : Int32), q4.2)) else ((fX10_advance N (mI (mI q4.2 x1 7 (1 : Int32)) x1 6 ((mI q4.2 x1 7 (1 : Int32)).1 5 6))).bind (fun q7 => some ((1 : Int32), q7)))))) else ((fX8_fail (3 : Int32) m).bind (fun q9 => if q9.1 = 0 ∨ q9.1 = 1 then (some (q9.1, q9.2)) else none))
set_option maxHeartbeats 4000000 in
set_option maxRecDepth 100000 in
theorem ctX8_readFlinch {l : Launch} {D : va_G} {ca : Nat → ClassId} {ad : Nat → Nat} (N : Nat) (x1 : Nat) (hx1 : ly ca x1 = (0, 6)) (hn : HNc ca) (m : Mem) (fin : (Int32 × Mem)) (hm : fX8_readFlinch N x1 m = some fin) : CI l D ca ad yX8_readFlinch cwX8_readFlinch rmX8_readFlinch [.ref (ad 2), .ref (ad x1)] m fin.1 fin.2 := by
  refine start (by decide) (Nat.le_of_ble_eq_true rfl) ?_
  intro p e s mm args below meth c H locs ls X hI hr hl
  have X : CX p s mm args meth c cX8_readFlinch 2 RX8 D ca ad (WA ca ad s.heap.size) := X
  have hx := X.1
  have hb := X.2.1
  have hl : lv_has ls 2 [(0, .ref (ad 2)), (1, .ref (ad x1))] := hl
  have hm : (if (m.1 x1 7) = 0 then ((fX10_advance N m).bind (fun q2 => (fX8_isNumber (0 : Int32) (100 : Int32) q2).bind (fun q4 => if q4.1 = 0 then (some ((0 : Int32), q4.2)) else ((fX10_advance N (mI (mI q4.2 x1 7 (1 : Int32)) x1 6 ((mI q4.2 x1 7 (1 : Int32)).1 5 6))).bind (fun q7 => some ((1 : Int32), q7)))))) else ((fX8_fail (3 : Int32) m).bind (fun q9 => if q9.1 = 0 ∨ q9.1 = 1 then (some (q9.1, q9.2)) else none))) = some fin := hm
  refine lv_aload_n hx hb dX8_readFlinch_0 rfl (lv_at hl 1 rfl) ?_
  refine gI X hI fdX8_158 hx1 dX8_readFlinch_1 ?_
  refine lv_if_eq (tgt := 13) hx hb dX8_readFlinch_4 (by decide) (fun c1 => ?_) (fun c1 => ?_)
  · have hm := g_t c1 hm
    refine lv_aload_n hx hb dX8_readFlinch_13 rfl (lv_at hl 0 rfl) ?_
    refine gR X hI fdX8_30 (la_2 hn) rf8_0 dX8_readFlinch_14 ?_
    obtain ⟨q2, h3, hm⟩ := g_b hm
    refine backV X hI (runV X hI (ctX10_advance N  hn _ _ h3 _) mdX8_110 (la_5 hn) rfl ⟨rfl, rfl⟩ ⟨Nat.le_of_ble_eq_true rfl, Nat.le_of_ble_eq_true rfl⟩ rfl hl.1 rfl (Nat.le_of_ble_eq_true rfl) dX8_readFlinch_17) (fun H locs hI => ?_)
    refine lv_aload_n hx hb dX8_readFlinch_20 rfl (lv_at hl 0 rfl) ?_
    refine lv_iconst (v := (0 : Int32)) hx hb dX8_readFlinch_21 (by decide) ?_
    refine lv_bipush (v := (100 : Int32)) hx hb dX8_readFlinch_22 (by decide) ?_
    obtain ⟨q4, h5, hm⟩ := g_b hm
    refine backI X hI (runV X hI (ctX8_isNumber (0 : Int32) (100 : Int32)  hn _ _ h5 _) mdX8_154 (la_2 hn) rfl ⟨rfl, rfl⟩ ⟨Nat.le_of_ble_eq_true rfl, Nat.le_of_ble_eq_true rfl⟩ rfl hl.1 rfl (Nat.le_of_ble_eq_true rfl) dX8_readFlinch_24) (fun H locs hI => ?_)
    refine lv_if_ne (tgt := 32) hx hb dX8_readFlinch_27 (by decide) (fun c6 => ?_) (fun c6 => ?_)
    · have hm := g_f c6 hm
      refine lv_aload_n hx hb dX8_readFlinch_32 rfl (lv_at hl 1 rfl) ?_
      refine lv_iconst (v := (1 : Int32)) hx hb dX8_readFlinch_33 (by decide) ?_
      refine pZ X hI fpX8_158 hx1 (by decide) dX8_readFlinch_34 (fun H locs hI => ?_)
      refine lv_aload_n hx hb dX8_readFlinch_37 rfl (lv_at hl 1 rfl) ?_
      refine lv_aload_n hx hb dX8_readFlinch_38 rfl (lv_at hl 0 rfl) ?_
      refine gR X hI fdX8_30 (la_2 hn) rf8_0 dX8_readFlinch_39 ?_
      refine gI X hI fdX8_133 (la_5 hn) dX8_readFlinch_42 ?_
      refine pI X hI fpX8_162 hx1 dX8_readFlinch_45 (fun H locs hI => ?_)
      refine lv_aload_n hx hb dX8_readFlinch_48 rfl (lv_at hl 0 rfl) ?_
      refine gR X hI fdX8_30 (la_2 hn) rf8_0 dX8_readFlinch_49 ?_
      obtain ⟨q7, h8, hm⟩ := g_b hm
      refine backV X hI (runV X hI (ctX10_advance N  hn _ _ h8 _) mdX8_110 (la_5 hn) rfl ⟨rfl, rfl⟩ ⟨Nat.le_of_ble_eq_true rfl, Nat.le_of_ble_eq_true rfl⟩ rfl hl.1 rfl (Nat.le_of_ble_eq_true rfl) dX8_readFlinch_52) (fun H locs hI => ?_)
      refine lv_iconst (v := (1 : Int32)) hx hb dX8_readFlinch_55 (by decide) ?_
      exact rZ X hI hr (by decide) (g_p hm).1 (g_p hm).2 dX8_readFlinch_56
    · have hm := g_t c6 hm
      refine lv_iconst (v := (0 : Int32)) hx hb dX8_readFlinch_30 (by decide) ?_
      exact rZ X hI hr (by decide) (g_p hm).1 (g_p hm).2 dX8_readFlinch_31
  · have hm := g_f c1 hm
    refine lv_aload_n hx hb dX8_readFlinch_7 rfl (lv_at hl 0 rfl) ?_
    refine lv_iconst (v := (3 : Int32)) hx hb dX8_readFlinch_8 (by decide) ?_
    obtain ⟨q9, h10, hm⟩ := g_b hm
    refine backI X hI (runV X hI (ctX8_fail (3 : Int32)  hn _ _ h10 _) mdX8_106 (la_2 hn) rfl ⟨rfl, rfl⟩ ⟨Nat.le_of_ble_eq_true rfl, Nat.le_of_ble_eq_true rfl⟩ rfl hl.1 rfl (Nat.le_of_ble_eq_true rfl) dX8_readFlinch_9) (fun H locs hI => ?_)
    obtain ⟨g11, hm⟩ := g_is hm
    exact rZ X hI hr g11 (g_p hm).1 (g_p hm).2 dX8_readFlinch_12
abbrev rmX8_readSeed : Room := { frames := 3, cells := 0, slots := 0, locals := 67 }
def fX8_readSeed (N : Nat) (x1 : Nat) (m : Mem) : Option (Int32 × Mem) := if (m.1 x1 9) = 0 then ((fX10_advance N m).bind (fun q2 => (fX8_isNumber (0 : Int32) (99999 : Int32) q2).bind (fun q4 => if q4.1 = 0 then (some ((0 : Int32), q4.2)) else ((fX10_advance N (mI (mI q4.2 x1 9 (1 : Int32)) x1 8 ((mI q4.2 x1 9 (1 : Int32)).1 5 6))).bind (fun q7 => some ((1 : Int32), q7)))))) else ((fX8_fail (3 : Int32) m).bind (fun q9 => if q9.1 = 0 ∨ q9.1 = 1 then (some (q9.1, q9.2)) else none))
set_option maxHeartbeats 4000000 in
set_option maxRecDepth 100000 in
theorem ctX8_readSeed {l : Launch} {D : va_G} {ca : Nat → ClassId} {ad : Nat → Nat} (N : Nat) (x1 : Nat) (hx1 : ly ca x1 = (0, 6)) (hn : HNc ca) (m : Mem) (fin : (Int32 × Mem)) (hm : fX8_readSeed N x1 m = some fin) : CI l D ca ad yX8_readSeed cwX8_readSeed rmX8_readSeed [.ref (ad 2), .ref (ad x1)] m fin.1 fin.2 := by
  refine start (by decide) (Nat.le_of_ble_eq_true rfl) ?_
  intro p e s mm args below meth c H locs ls X hI hr hl
  have X : CX p s mm args meth c cX8_readSeed 2 RX8 D ca ad (WA ca ad s.heap.size) := X
  have hx := X.1
  have hb := X.2.1
  have hl : lv_has ls 2 [(0, .ref (ad 2)), (1, .ref (ad x1))] := hl
  have hm : (if (m.1 x1 9) = 0 then ((fX10_advance N m).bind (fun q2 => (fX8_isNumber (0 : Int32) (99999 : Int32) q2).bind (fun q4 => if q4.1 = 0 then (some ((0 : Int32), q4.2)) else ((fX10_advance N (mI (mI q4.2 x1 9 (1 : Int32)) x1 8 ((mI q4.2 x1 9 (1 : Int32)).1 5 6))).bind (fun q7 => some ((1 : Int32), q7)))))) else ((fX8_fail (3 : Int32) m).bind (fun q9 => if q9.1 = 0 ∨ q9.1 = 1 then (some (q9.1, q9.2)) else none))) = some fin := hm
  refine lv_aload_n hx hb dX8_readSeed_0 rfl (lv_at hl 1 rfl) ?_
  refine gI X hI fdX8_165 hx1 dX8_readSeed_1 ?_
  refine lv_if_eq (tgt := 13) hx hb dX8_readSeed_4 (by decide) (fun c1 => ?_) (fun c1 => ?_)
  · have hm := g_t c1 hm
    refine lv_aload_n hx hb dX8_readSeed_13 rfl (lv_at hl 0 rfl) ?_
    refine gR X hI fdX8_30 (la_2 hn) rf8_0 dX8_readSeed_14 ?_
    obtain ⟨q2, h3, hm⟩ := g_b hm
    refine backV X hI (runV X hI (ctX10_advance N  hn _ _ h3 _) mdX8_110 (la_5 hn) rfl ⟨rfl, rfl⟩ ⟨Nat.le_of_ble_eq_true rfl, Nat.le_of_ble_eq_true rfl⟩ rfl hl.1 rfl (Nat.le_of_ble_eq_true rfl) dX8_readSeed_17) (fun H locs hI => ?_)
    refine lv_aload_n hx hb dX8_readSeed_20 rfl (lv_at hl 0 rfl) ?_
    refine lv_iconst (v := (0 : Int32)) hx hb dX8_readSeed_21 (by decide) ?_
    refine lv_ldc hx hb X.2.2.2.1 (X.2.2.2.2.1 _ kcX8_168) dX8_readSeed_22 ?_
    obtain ⟨q4, h5, hm⟩ := g_b hm
    refine backI X hI (runV X hI (ctX8_isNumber (0 : Int32) (99999 : Int32)  hn _ _ h5 _) mdX8_154 (la_2 hn) rfl ⟨rfl, rfl⟩ ⟨Nat.le_of_ble_eq_true rfl, Nat.le_of_ble_eq_true rfl⟩ rfl hl.1 rfl (Nat.le_of_ble_eq_true rfl) dX8_readSeed_24) (fun H locs hI => ?_)
    refine lv_if_ne (tgt := 32) hx hb dX8_readSeed_27 (by decide) (fun c6 => ?_) (fun c6 => ?_)
    · have hm := g_f c6 hm
      refine lv_aload_n hx hb dX8_readSeed_32 rfl (lv_at hl 1 rfl) ?_
      refine lv_iconst (v := (1 : Int32)) hx hb dX8_readSeed_33 (by decide) ?_
      refine pZ X hI fpX8_165 hx1 (by decide) dX8_readSeed_34 (fun H locs hI => ?_)
      refine lv_aload_n hx hb dX8_readSeed_37 rfl (lv_at hl 1 rfl) ?_
      refine lv_aload_n hx hb dX8_readSeed_38 rfl (lv_at hl 0 rfl) ?_
      refine gR X hI fdX8_30 (la_2 hn) rf8_0 dX8_readSeed_39 ?_
      refine gI X hI fdX8_133 (la_5 hn) dX8_readSeed_42 ?_
      refine pI X hI fpX8_169 hx1 dX8_readSeed_45 (fun H locs hI => ?_)
      refine lv_aload_n hx hb dX8_readSeed_48 rfl (lv_at hl 0 rfl) ?_
      refine gR X hI fdX8_30 (la_2 hn) rf8_0 dX8_readSeed_49 ?_
      obtain ⟨q7, h8, hm⟩ := g_b hm
      refine backV X hI (runV X hI (ctX10_advance N  hn _ _ h8 _) mdX8_110 (la_5 hn) rfl ⟨rfl, rfl⟩ ⟨Nat.le_of_ble_eq_true rfl, Nat.le_of_ble_eq_true rfl⟩ rfl hl.1 rfl (Nat.le_of_ble_eq_true rfl) dX8_readSeed_52) (fun H locs hI => ?_)
      refine lv_iconst (v := (1 : Int32)) hx hb dX8_readSeed_55 (by decide) ?_
      exact rZ X hI hr (by decide) (g_p hm).1 (g_p hm).2 dX8_readSeed_56
    · have hm := g_t c6 hm
      refine lv_iconst (v := (0 : Int32)) hx hb dX8_readSeed_30 (by decide) ?_
      exact rZ X hI hr (by decide) (g_p hm).1 (g_p hm).2 dX8_readSeed_31
  · have hm := g_f c1 hm
    refine lv_aload_n hx hb dX8_readSeed_7 rfl (lv_at hl 0 rfl) ?_
    refine lv_iconst (v := (3 : Int32)) hx hb dX8_readSeed_8 (by decide) ?_
    obtain ⟨q9, h10, hm⟩ := g_b hm
    refine backI X hI (runV X hI (ctX8_fail (3 : Int32)  hn _ _ h10 _) mdX8_106 (la_2 hn) rfl ⟨rfl, rfl⟩ ⟨Nat.le_of_ble_eq_true rfl, Nat.le_of_ble_eq_true rfl⟩ rfl hl.1 rfl (Nat.le_of_ble_eq_true rfl) dX8_readSeed_9) (fun H locs hI => ?_)
    obtain ⟨g11, hm⟩ := g_is hm
    exact rZ X hI hr g11 (g_p hm).1 (g_p hm).2 dX8_readSeed_12
abbrev rmX8_binding : Room := { frames := 0, cells := 0, slots := 0, locals := 0 }
def fX8_binding  (x0 : Int32) (m : Mem) : Option Int32 := if x0 = (11 : Int32) then (some (1 : Int32)) else (if x0 = (12 : Int32) then (some (2 : Int32)) else (if x0 = (13 : Int32) then (some (3 : Int32)) else (if x0 = (14 : Int32) then (some (0 : Int32)) else (if x0 = (15 : Int32) then (some (0 : Int32)) else (if x0 = (16 : Int32) then (some (0 : Int32)) else (if x0 = (17 : Int32) then (some (0 : Int32)) else (if x0 = (18 : Int32) then (some (0 : Int32)) else (if x0 = (19 : Int32) then (some (0 : Int32)) else (if x0 = (20 : Int32) then (some (0 : Int32)) else (if x0 = (21 : Int32) then (some (0 : Int32)) else (if x0 = (22 : Int32) then (some (0 : Int32)) else (if x0 = (23 : Int32) then (some (0 : Int32)) else (if x0 = (24 : Int32) then (some (0 : Int32)) else (if x0 = (25 : Int32) then (some (4 : Int32)) else (if x0 = (26 : Int32) then (some (4 : Int32)) else (if x0 = (27 : Int32) then (some (4 : Int32)) else (if x0 = (28 : Int32) then (some (4 : Int32)) else (if x0 = (29 : Int32) then (some (4 : Int32)) else (if x0 = (30 : Int32) then (some (4 : Int32)) else (if x0 = (31 : Int32) then (some (5 : Int32)) else (if x0 = (32 : Int32) then (some (5 : Int32)) else (if x0 = (33 : Int32) then (some (6 : Int32)) else (if x0 = (34 : Int32) then (some (6 : Int32)) else (some (0 : Int32)))))))))))))))))))))))))
set_option maxHeartbeats 4000000 in
set_option maxRecDepth 100000 in
theorem ctX8_binding {l : Launch} {D : va_G} {ca : Nat → ClassId} {ad : Nat → Nat}  (x0 : Int32)  (hn : HNc ca) (m : Mem) (fin : Int32) (hm : fX8_binding x0 m = some fin) : CI l D ca ad yX8_binding cwX8_binding rmX8_binding [.int x0] m fin m := by
  refine start (by decide) (Nat.le_of_ble_eq_true rfl) ?_
  intro p e s mm args below meth c H locs ls X hI hr hl
  have X : CX p s mm args meth c cX8_binding 1 RX8 D ca ad (WA ca ad s.heap.size) := X
  have hx := X.1
  have hb := X.2.1
  have hl : lv_has ls 1 [(0, .int x0)] := hl
  have hm : (if x0 = (11 : Int32) then (some (1 : Int32)) else (if x0 = (12 : Int32) then (some (2 : Int32)) else (if x0 = (13 : Int32) then (some (3 : Int32)) else (if x0 = (14 : Int32) then (some (0 : Int32)) else (if x0 = (15 : Int32) then (some (0 : Int32)) else (if x0 = (16 : Int32) then (some (0 : Int32)) else (if x0 = (17 : Int32) then (some (0 : Int32)) else (if x0 = (18 : Int32) then (some (0 : Int32)) else (if x0 = (19 : Int32) then (some (0 : Int32)) else (if x0 = (20 : Int32) then (some (0 : Int32)) else (if x0 = (21 : Int32) then (some (0 : Int32)) else (if x0 = (22 : Int32) then (some (0 : Int32)) else (if x0 = (23 : Int32) then (some (0 : Int32)) else (if x0 = (24 : Int32) then (some (0 : Int32)) else (if x0 = (25 : Int32) then (some (4 : Int32)) else (if x0 = (26 : Int32) then (some (4 : Int32)) else (if x0 = (27 : Int32) then (some (4 : Int32)) else (if x0 = (28 : Int32) then (some (4 : Int32)) else (if x0 = (29 : Int32) then (some (4 : Int32)) else (if x0 = (30 : Int32) then (some (4 : Int32)) else (if x0 = (31 : Int32) then (some (5 : Int32)) else (if x0 = (32 : Int32) then (some (5 : Int32)) else (if x0 = (33 : Int32) then (some (6 : Int32)) else (if x0 = (34 : Int32) then (some (6 : Int32)) else (some (0 : Int32)))))))))))))))))))))))))) = some fin := hm
  have hpm : m = m := rfl
  refine lv_iload_n hx hb dX8_binding_0 rfl (lv_at hl 0 rfl) ?_
  by_cases c1 : x0 = (11 : Int32)
  · have hm := g_t c1 hm
    refine lv_tableIn (tgt := 112) hx hb dX8_binding_1 (by rw [c1]; decide) (by rw [c1]; decide) (off := 111) (by rw [c1]; decide) (by decide) ?_
    refine lv_iconst (v := (1 : Int32)) hx hb dX8_binding_112 (by decide) ?_
    exact rI X hI hr (g_1 hm) hpm dX8_binding_113
  · have hm := g_f c1 hm
    by_cases c2 : x0 = (12 : Int32)
    · have hm := g_t c2 hm
      refine lv_tableIn (tgt := 114) hx hb dX8_binding_1 (by rw [c2]; decide) (by rw [c2]; decide) (off := 113) (by rw [c2]; decide) (by decide) ?_
      refine lv_iconst (v := (2 : Int32)) hx hb dX8_binding_114 (by decide) ?_
      exact rI X hI hr (g_1 hm) hpm dX8_binding_115
    · have hm := g_f c2 hm
      by_cases c3 : x0 = (13 : Int32)
      · have hm := g_t c3 hm
        refine lv_tableIn (tgt := 116) hx hb dX8_binding_1 (by rw [c3]; decide) (by rw [c3]; decide) (off := 115) (by rw [c3]; decide) (by decide) ?_
        refine lv_iconst (v := (3 : Int32)) hx hb dX8_binding_116 (by decide) ?_
        exact rI X hI hr (g_1 hm) hpm dX8_binding_117
      · have hm := g_f c3 hm
        by_cases c4 : x0 = (14 : Int32)
        · have hm := g_t c4 hm
          refine lv_tableIn (tgt := 125) hx hb dX8_binding_1 (by rw [c4]; decide) (by rw [c4]; decide) (off := 124) (by rw [c4]; decide) (by decide) ?_
          refine lv_iconst (v := (0 : Int32)) hx hb dX8_binding_125 (by decide) ?_
          exact rI X hI hr (g_1 hm) hpm dX8_binding_126
        · have hm := g_f c4 hm
          by_cases c5 : x0 = (15 : Int32)
          · have hm := g_t c5 hm
            refine lv_tableIn (tgt := 125) hx hb dX8_binding_1 (by rw [c5]; decide) (by rw [c5]; decide) (off := 124) (by rw [c5]; decide) (by decide) ?_
            refine lv_iconst (v := (0 : Int32)) hx hb dX8_binding_125 (by decide) ?_
            exact rI X hI hr (g_1 hm) hpm dX8_binding_126
          · have hm := g_f c5 hm
            by_cases c6 : x0 = (16 : Int32)
            · have hm := g_t c6 hm
              refine lv_tableIn (tgt := 125) hx hb dX8_binding_1 (by rw [c6]; decide) (by rw [c6]; decide) (off := 124) (by rw [c6]; decide) (by decide) ?_
              refine lv_iconst (v := (0 : Int32)) hx hb dX8_binding_125 (by decide) ?_
              exact rI X hI hr (g_1 hm) hpm dX8_binding_126
            · have hm := g_f c6 hm
              by_cases c7 : x0 = (17 : Int32)
              · have hm := g_t c7 hm
                refine lv_tableIn (tgt := 125) hx hb dX8_binding_1 (by rw [c7]; decide) (by rw [c7]; decide) (off := 124) (by rw [c7]; decide) (by decide) ?_
                refine lv_iconst (v := (0 : Int32)) hx hb dX8_binding_125 (by decide) ?_
                exact rI X hI hr (g_1 hm) hpm dX8_binding_126
              · have hm := g_f c7 hm
                by_cases c8 : x0 = (18 : Int32)
                · have hm := g_t c8 hm
                  refine lv_tableIn (tgt := 125) hx hb dX8_binding_1 (by rw [c8]; decide) (by rw [c8]; decide) (off := 124) (by rw [c8]; decide) (by decide) ?_
                  refine lv_iconst (v := (0 : Int32)) hx hb dX8_binding_125 (by decide) ?_
                  exact rI X hI hr (g_1 hm) hpm dX8_binding_126
                · have hm := g_f c8 hm
                  by_cases c9 : x0 = (19 : Int32)
                  · have hm := g_t c9 hm
                    refine lv_tableIn (tgt := 125) hx hb dX8_binding_1 (by rw [c9]; decide) (by rw [c9]; decide) (off := 124) (by rw [c9]; decide) (by decide) ?_
                    refine lv_iconst (v := (0 : Int32)) hx hb dX8_binding_125 (by decide) ?_
                    exact rI X hI hr (g_1 hm) hpm dX8_binding_126
                  · have hm := g_f c9 hm
                    by_cases c10 : x0 = (20 : Int32)
                    · have hm := g_t c10 hm
                      refine lv_tableIn (tgt := 125) hx hb dX8_binding_1 (by rw [c10]; decide) (by rw [c10]; decide) (off := 124) (by rw [c10]; decide) (by decide) ?_
                      refine lv_iconst (v := (0 : Int32)) hx hb dX8_binding_125 (by decide) ?_
                      exact rI X hI hr (g_1 hm) hpm dX8_binding_126
                    · have hm := g_f c10 hm
                      by_cases c11 : x0 = (21 : Int32)
                      · have hm := g_t c11 hm
                        refine lv_tableIn (tgt := 125) hx hb dX8_binding_1 (by rw [c11]; decide) (by rw [c11]; decide) (off := 124) (by rw [c11]; decide) (by decide) ?_
                        refine lv_iconst (v := (0 : Int32)) hx hb dX8_binding_125 (by decide) ?_
                        exact rI X hI hr (g_1 hm) hpm dX8_binding_126
                      · have hm := g_f c11 hm
                        by_cases c12 : x0 = (22 : Int32)
                        · have hm := g_t c12 hm
                          refine lv_tableIn (tgt := 125) hx hb dX8_binding_1 (by rw [c12]; decide) (by rw [c12]; decide) (off := 124) (by rw [c12]; decide) (by decide) ?_
                          refine lv_iconst (v := (0 : Int32)) hx hb dX8_binding_125 (by decide) ?_
                          exact rI X hI hr (g_1 hm) hpm dX8_binding_126
                        · have hm := g_f c12 hm
                          by_cases c13 : x0 = (23 : Int32)
                          · have hm := g_t c13 hm
                            refine lv_tableIn (tgt := 125) hx hb dX8_binding_1 (by rw [c13]; decide) (by rw [c13]; decide) (off := 124) (by rw [c13]; decide) (by decide) ?_
                            refine lv_iconst (v := (0 : Int32)) hx hb dX8_binding_125 (by decide) ?_
                            exact rI X hI hr (g_1 hm) hpm dX8_binding_126
                          · have hm := g_f c13 hm
                            by_cases c14 : x0 = (24 : Int32)
                            · have hm := g_t c14 hm
                              refine lv_tableIn (tgt := 125) hx hb dX8_binding_1 (by rw [c14]; decide) (by rw [c14]; decide) (off := 124) (by rw [c14]; decide) (by decide) ?_
                              refine lv_iconst (v := (0 : Int32)) hx hb dX8_binding_125 (by decide) ?_
                              exact rI X hI hr (g_1 hm) hpm dX8_binding_126
                            · have hm := g_f c14 hm
                              by_cases c15 : x0 = (25 : Int32)
                              · have hm := g_t c15 hm
                                refine lv_tableIn (tgt := 118) hx hb dX8_binding_1 (by rw [c15]; decide) (by rw [c15]; decide) (off := 117) (by rw [c15]; decide) (by decide) ?_
                                refine lv_iconst (v := (4 : Int32)) hx hb dX8_binding_118 (by decide) ?_
                                exact rI X hI hr (g_1 hm) hpm dX8_binding_119
                              · have hm := g_f c15 hm
                                by_cases c16 : x0 = (26 : Int32)
                                · have hm := g_t c16 hm
                                  refine lv_tableIn (tgt := 118) hx hb dX8_binding_1 (by rw [c16]; decide) (by rw [c16]; decide) (off := 117) (by rw [c16]; decide) (by decide) ?_
                                  refine lv_iconst (v := (4 : Int32)) hx hb dX8_binding_118 (by decide) ?_
                                  exact rI X hI hr (g_1 hm) hpm dX8_binding_119
                                · have hm := g_f c16 hm
                                  by_cases c17 : x0 = (27 : Int32)
                                  · have hm := g_t c17 hm
                                    refine lv_tableIn (tgt := 118) hx hb dX8_binding_1 (by rw [c17]; decide) (by rw [c17]; decide) (off := 117) (by rw [c17]; decide) (by decide) ?_
                                    refine lv_iconst (v := (4 : Int32)) hx hb dX8_binding_118 (by decide) ?_
                                    exact rI X hI hr (g_1 hm) hpm dX8_binding_119
                                  · have hm := g_f c17 hm
                                    by_cases c18 : x0 = (28 : Int32)
                                    · have hm := g_t c18 hm
                                      refine lv_tableIn (tgt := 118) hx hb dX8_binding_1 (by rw [c18]; decide) (by rw [c18]; decide) (off := 117) (by rw [c18]; decide) (by decide) ?_
                                      refine lv_iconst (v := (4 : Int32)) hx hb dX8_binding_118 (by decide) ?_
                                      exact rI X hI hr (g_1 hm) hpm dX8_binding_119
                                    · have hm := g_f c18 hm
                                      by_cases c19 : x0 = (29 : Int32)
                                      · have hm := g_t c19 hm
                                        refine lv_tableIn (tgt := 118) hx hb dX8_binding_1 (by rw [c19]; decide) (by rw [c19]; decide) (off := 117) (by rw [c19]; decide) (by decide) ?_
                                        refine lv_iconst (v := (4 : Int32)) hx hb dX8_binding_118 (by decide) ?_
                                        exact rI X hI hr (g_1 hm) hpm dX8_binding_119
                                      · have hm := g_f c19 hm
                                        by_cases c20 : x0 = (30 : Int32)
                                        · have hm := g_t c20 hm
                                          refine lv_tableIn (tgt := 118) hx hb dX8_binding_1 (by rw [c20]; decide) (by rw [c20]; decide) (off := 117) (by rw [c20]; decide) (by decide) ?_
                                          refine lv_iconst (v := (4 : Int32)) hx hb dX8_binding_118 (by decide) ?_
                                          exact rI X hI hr (g_1 hm) hpm dX8_binding_119
                                        · have hm := g_f c20 hm
                                          by_cases c21 : x0 = (31 : Int32)
                                          · have hm := g_t c21 hm
                                            refine lv_tableIn (tgt := 120) hx hb dX8_binding_1 (by rw [c21]; decide) (by rw [c21]; decide) (off := 119) (by rw [c21]; decide) (by decide) ?_
                                            refine lv_iconst (v := (5 : Int32)) hx hb dX8_binding_120 (by decide) ?_
                                            exact rI X hI hr (g_1 hm) hpm dX8_binding_121
                                          · have hm := g_f c21 hm
                                            by_cases c22 : x0 = (32 : Int32)
                                            · have hm := g_t c22 hm
                                              refine lv_tableIn (tgt := 120) hx hb dX8_binding_1 (by rw [c22]; decide) (by rw [c22]; decide) (off := 119) (by rw [c22]; decide) (by decide) ?_
                                              refine lv_iconst (v := (5 : Int32)) hx hb dX8_binding_120 (by decide) ?_
                                              exact rI X hI hr (g_1 hm) hpm dX8_binding_121
                                            · have hm := g_f c22 hm
                                              by_cases c23 : x0 = (33 : Int32)
                                              · have hm := g_t c23 hm
                                                refine lv_tableIn (tgt := 122) hx hb dX8_binding_1 (by rw [c23]; decide) (by rw [c23]; decide) (off := 121) (by rw [c23]; decide) (by decide) ?_
                                                refine lv_bipush (v := (6 : Int32)) hx hb dX8_binding_122 (by decide) ?_
                                                exact rI X hI hr (g_1 hm) hpm dX8_binding_124
                                              · have hm := g_f c23 hm
                                                by_cases c24 : x0 = (34 : Int32)
                                                · have hm := g_t c24 hm
                                                  refine lv_tableIn (tgt := 122) hx hb dX8_binding_1 (by rw [c24]; decide) (by rw [c24]; decide) (off := 121) (by rw [c24]; decide) (by decide) ?_
                                                  refine lv_bipush (v := (6 : Int32)) hx hb dX8_binding_122 (by decide) ?_
                                                  exact rI X hI hr (g_1 hm) hpm dX8_binding_124
                                                · have hm := g_f c24 hm
                                                  have ec1 := lv_neT c1 (a := 11) (by decide)
                                                  have ec2 := lv_neT c2 (a := 12) (by decide)
                                                  have ec3 := lv_neT c3 (a := 13) (by decide)
                                                  have ec4 := lv_neT c4 (a := 14) (by decide)
                                                  have ec5 := lv_neT c5 (a := 15) (by decide)
                                                  have ec6 := lv_neT c6 (a := 16) (by decide)
                                                  have ec7 := lv_neT c7 (a := 17) (by decide)
                                                  have ec8 := lv_neT c8 (a := 18) (by decide)
                                                  have ec9 := lv_neT c9 (a := 19) (by decide)
                                                  have ec10 := lv_neT c10 (a := 20) (by decide)
                                                  have ec11 := lv_neT c11 (a := 21) (by decide)
                                                  have ec12 := lv_neT c12 (a := 22) (by decide)
                                                  have ec13 := lv_neT c13 (a := 23) (by decide)
                                                  have ec14 := lv_neT c14 (a := 24) (by decide)
                                                  have ec15 := lv_neT c15 (a := 25) (by decide)
                                                  have ec16 := lv_neT c16 (a := 26) (by decide)
                                                  have ec17 := lv_neT c17 (a := 27) (by decide)
                                                  have ec18 := lv_neT c18 (a := 28) (by decide)
                                                  have ec19 := lv_neT c19 (a := 29) (by decide)
                                                  have ec20 := lv_neT c20 (a := 30) (by decide)
                                                  have ec21 := lv_neT c21 (a := 31) (by decide)
                                                  have ec22 := lv_neT c22 (a := 32) (by decide)
                                                  have ec23 := lv_neT c23 (a := 33) (by decide)
                                                  have ec24 := lv_neT c24 (a := 34) (by decide)
                                                  refine lv_tableOut (tgt := 125) hx hb dX8_binding_1 (by omega) (by decide) ?_
                                                  refine lv_iconst (v := (0 : Int32)) hx hb dX8_binding_125 (by decide) ?_
                                                  exact rI X hI hr (g_1 hm) hpm dX8_binding_126
abbrev rmX8_unload : Room := { frames := 1, cells := 0, slots := 0, locals := 22 }
def fX8_unload_7 (N : Nat) : Nat → Nat → Int32 → Int32 → Mem → Option Mem
  | 0, _, _, _, _ => none
  | n + 1, x1, x2, x3, m => if x3 < 0 then (some m) else (if (Int32.ofNat 72) ≤ x3 then (some m) else (if x3 < 0 ∨ 72 ≤ x3.toNatClampNeg then none else (if (m.1 3 x3.toNatClampNeg) = (23 : Int32) then (some m) else ((fX8_binding (m.1 3 x3.toNatClampNeg) m).bind (fun q5 => if x2 ≤ q5 then ((fX3_put x1 (m.1 3 x3.toNatClampNeg) (0 : Int32) m).bind (fun q8 => fX8_unload_7 N n x1 x2 (x3 + (-1 : Int32)) (mI q8 2 3 x3))) else (some m))))))
set_option maxHeartbeats 4000000 in
set_option maxRecDepth 100000 in
theorem tX8_unload_7 (N : Nat) {l : Launch} {D : va_G} {ca : Nat → ClassId} {ad : Nat → Nat} {p : Program} {e : Env} {s : State} {mm : MethodId} {args : Array Value} {below : List Frame} {meth : Method} {c : Code}  (hn : HNc ca) (X : CX p s mm args meth c cX8_unload 5 RX8 D ca ad (WA ca ad s.heap.size)) (hr : meth.sig.returnType = none) (fin : Mem)  : ∀ (n : Nat) (x1 : Nat) (x2 : Int32) (x3 : Int32) (m : Mem) (H : Heap) (locs : List Loc) (ls : Array Slot), ly ca x1 = (0, 3) → IW D ca ad (WA ca ad s.heap.size) s m H locs → lv_has ls 5 [(0, .ref (ad 2)), (1, .ref (ad x1)), (2, .int x2), (3, .int x3)] → fX8_unload_7 N n x1 x2 x3 m = some fin → W p l e rmX8_unload s mm args below meth c H locs 0 0 (MQ below (QV D ca ad s.heap.size fin) args s 0 0 (WA ca ad s.heap.size)) (F0 mm 7 ls []) := by
  have hx := X.1
  have hb := X.2.1
  intro n
  induction n with
  | zero => intro x1 x2 x3 m H locs ls hx1 hI hl hm
            exact absurd hm (by intro q; cases q)
  | succ n ih =>
    intro x1 x2 x3 m H locs ls hx1 hI hl hm
    have hm : (if x3 < 0 then (some m) else (if (Int32.ofNat 72) ≤ x3 then (some m) else (if x3 < 0 ∨ 72 ≤ x3.toNatClampNeg then none else (if (m.1 3 x3.toNatClampNeg) = (23 : Int32) then (some m) else ((fX8_binding (m.1 3 x3.toNatClampNeg) m).bind (fun q5 => if x2 ≤ q5 then ((fX3_put x1 (m.1 3 x3.toNatClampNeg) (0 : Int32) m).bind (fun q8 => fX8_unload_7 N n x1 x2 (x3 + (-1 : Int32)) (mI q8 2 3 x3))) else (some m))))))) = some fin := hm
    refine lv_iload_n hx hb dX8_unload_7 rfl (lv_at hl 3 rfl) ?_
    refine lv_if_lt (tgt := 63) hx hb dX8_unload_8 (by decide) (fun c1 => ?_) (fun c1 => ?_)
    · have hm := g_t c1 hm
      exact rV X hI hr (g_1 hm) dX8_unload_63
    · have hm := g_f c1 hm
      refine lv_iload_n hx hb dX8_unload_11 rfl (lv_at hl 3 rfl) ?_
      refine lv_aload_n hx hb dX8_unload_12 rfl (lv_at hl 0 rfl) ?_
      refine gR X hI fdX8_13 (la_2 hn) rf8_1 dX8_unload_13 ?_
      refine nA X hI (la_3 hn) dX8_unload_16 ?_
      refine lv_icmp_ge (tgt := 63) hx hb dX8_unload_17 (by decide) (fun c2 => ?_) (fun c2 => ?_)
      · have hm := g_t c2 hm
        exact rV X hI hr (g_1 hm) dX8_unload_63
      · have hm := g_f c2 hm
        refine lv_aload_n hx hb dX8_unload_20 rfl (lv_at hl 0 rfl) ?_
        refine gR X hI fdX8_13 (la_2 hn) rf8_1 dX8_unload_21 ?_
        refine lv_iload_n hx hb dX8_unload_24 rfl (lv_at hl 3 rfl) ?_
        obtain ⟨g3, hm⟩ := g_no hm
        refine aI X hI (la_3 hn) g3 dX8_unload_25 ?_
        refine lv_istore (lv' := [(4, .int (m.1 3 x3.toNatClampNeg)), (0, .ref (ad 2)), (1, .ref (ad x1)), (2, .int x2), (3, .int x3)]) hx hb dX8_unload_26 hl (by decide) rfl (fun ls hl => ?_)
        refine lv_iload hx hb dX8_unload_28 (lv_at hl 0 rfl) ?_
        refine lv_bipush (v := (23 : Int32)) hx hb dX8_unload_30 (by decide) ?_
        refine lv_icmp_eq (tgt := 44) hx hb dX8_unload_32 (by decide) (fun c4 => ?_) (fun c4 => ?_)
        · have hm := g_t c4 hm
          exact rV X hI hr (g_1 hm) dX8_unload_44
        · have hm := g_f c4 hm
          refine lv_iload hx hb dX8_unload_35 (lv_at hl 0 rfl) ?_
          obtain ⟨q5, h6, hm⟩ := g_b hm
          refine backI X hI (runS X hI (ctX8_binding (m.1 3 x3.toNatClampNeg)  hn _ _ h6 _) msX8_212 ⟨rfl, rfl⟩ ⟨Nat.le_of_ble_eq_true rfl, Nat.le_of_ble_eq_true rfl⟩ rfl hl.1 rfl (Nat.le_of_ble_eq_true rfl) dX8_unload_37) (fun H locs hI => ?_)
          refine lv_iload_n hx hb dX8_unload_40 rfl (lv_at hl 3 rfl) ?_
          refine lv_icmp_ge (tgt := 45) hx hb dX8_unload_41 (by decide) (fun c7 => ?_) (fun c7 => ?_)
          · have hm := g_t c7 hm
            refine lv_aload_n hx hb dX8_unload_45 rfl (lv_at hl 2 rfl) ?_
            refine lv_iload hx hb dX8_unload_46 (lv_at hl 0 rfl) ?_
            refine lv_iconst (v := (0 : Int32)) hx hb dX8_unload_48 (by decide) ?_
            obtain ⟨q8, h9, hm⟩ := g_b hm
            refine backV X hI (runV X hI (ctX3_put x1 (m.1 3 x3.toNatClampNeg) (0 : Int32) hx1 hn _ _ h9 _) mdX8_209 hx1 rfl ⟨rfl, rfl⟩ ⟨Nat.le_of_ble_eq_true rfl, Nat.le_of_ble_eq_true rfl⟩ rfl hl.1 rfl (Nat.le_of_ble_eq_true rfl) dX8_unload_49) (fun H locs hI => ?_)
            refine lv_aload_n hx hb dX8_unload_52 rfl (lv_at hl 1 rfl) ?_
            refine lv_iload_n hx hb dX8_unload_53 rfl (lv_at hl 4 rfl) ?_
            refine pI X hI fpX8_176 (la_2 hn) dX8_unload_54 (fun H locs hI => ?_)
            refine lv_iinc (v := (x3 + (-1 : Int32))) (lv' := [(3, .int (x3 + (-1 : Int32))), (4, .int (m.1 3 x3.toNatClampNeg)), (0, .ref (ad 2)), (1, .ref (ad x1)), (2, .int x2)]) hx hb dX8_unload_57 hl (k := 4) rfl rfl (by decide) rfl (fun ls hl => ?_)
            refine lv_goto (tgt := 7) hx hb dX8_unload_60 (by decide) ?_
            exact ih x1 x2 (x3 + (-1 : Int32)) (mI q8 2 3 x3) H locs ls hx1 hI (lv_sub hl [2, 3, 4, 0] rfl) hm
          · have hm := g_f c7 hm
            exact rV X hI hr (g_1 hm) dX8_unload_44
def fX8_unload (N : Nat) (x1 : Nat) (x2 : Int32) (m : Mem) : Option Mem := fX8_unload_7 N N x1 x2 ((m.1 2 3) - (1 : Int32)) m
set_option maxHeartbeats 4000000 in
set_option maxRecDepth 100000 in
theorem ctX8_unload {l : Launch} {D : va_G} {ca : Nat → ClassId} {ad : Nat → Nat} (N : Nat) (x1 : Nat) (x2 : Int32) (hx1 : ly ca x1 = (0, 3)) (hn : HNc ca) (m : Mem) (fin : Mem) (hm : fX8_unload N x1 x2 m = some fin) : CV l D ca ad yX8_unload cwX8_unload rmX8_unload [.ref (ad 2), .ref (ad x1), .int x2] m fin := by
  refine start (by decide) (Nat.le_of_ble_eq_true rfl) ?_
  intro p e s mm args below meth c H locs ls X hI hr hl
  have X : CX p s mm args meth c cX8_unload 5 RX8 D ca ad (WA ca ad s.heap.size) := X
  have hx := X.1
  have hb := X.2.1
  have hl : lv_has ls 5 [(0, .ref (ad 2)), (1, .ref (ad x1)), (2, .int x2)] := hl
  have hm : (fX8_unload_7 N N x1 x2 ((m.1 2 3) - (1 : Int32)) m) = some fin := hm
  refine lv_aload_n hx hb dX8_unload_0 rfl (lv_at hl 0 rfl) ?_
  refine gI X hI fdX8_176 (la_2 hn) dX8_unload_1 ?_
  refine lv_iconst (v := (1 : Int32)) hx hb dX8_unload_4 (by decide) ?_
  refine lv_isub hx hb dX8_unload_5 ?_
  refine lv_istore_n (lv' := [(3, .int ((m.1 2 3) - (1 : Int32))), (0, .ref (ad 2)), (1, .ref (ad x1)), (2, .int x2)]) hx hb dX8_unload_6 rfl hl (by decide) rfl (fun ls hl => ?_)
  exact tX8_unload_7 N hn X hr fin  N x1 x2 ((m.1 2 3) - (1 : Int32)) m H locs ls hx1 hI (lv_sub hl [1, 2, 3, 0] rfl) hm
abbrev rmX8_await : Room := { frames := 1, cells := 0, slots := 0, locals := 21 }
def fX8_await_19   (m : Mem) : Option (Int32 × Mem) := (fX8_fail (2 : Int32) m).bind (fun q2 => if q2.1 = 0 ∨ q2.1 = 1 then (some (q2.1, q2.2)) else none)
set_option maxHeartbeats 4000000 in
set_option maxRecDepth 100000 in
theorem tX8_await_19  {l : Launch} {D : va_G} {ca : Nat → ClassId} {ad : Nat → Nat} {p : Program} {e : Env} {s : State} {mm : MethodId} {args : Array Value} {below : List Frame} {meth : Method} {c : Code}  (hn : HNc ca) (X : CX p s mm args meth c cX8_await 2 RX8 D ca ad (WA ca ad s.heap.size)) (hr : meth.sig.returnType = (some .boolean)) (fin : (Int32 × Mem))  : ∀  (m : Mem) (H : Heap) (locs : List Loc) (ls : Array Slot), IW D ca ad (WA ca ad s.heap.size) s m H locs → lv_has ls 2 [(0, .ref (ad 2))] → fX8_await_19  m = some fin → W p l e rmX8_await s mm args below meth c H locs 0 0 (MQ below (QI D ca ad s.heap.size fin.1 fin.2) args s 0 0 (WA ca ad s.heap.size)) (F0 mm 19 ls []) := by
  have hx := X.1
  have hb := X.2.1
  intro m H locs ls hI hl hm
  have hm : ((fX8_fail (2 : Int32) m).bind (fun q2 => if q2.1 = 0 ∨ q2.1 = 1 then (some (q2.1, q2.2)) else none)) = some fin := hm
  refine lv_aload_n hx hb dX8_await_19 rfl (lv_at hl 0 rfl) ?_
  refine lv_iconst (v := (2 : Int32)) hx hb dX8_await_20 (by decide) ?_
  obtain ⟨q2, h3, hm⟩ := g_b hm
  refine backI X hI (runV X hI (ctX8_fail (2 : Int32)  hn _ _ h3 _) mdX8_106 (la_2 hn) rfl ⟨rfl, rfl⟩ ⟨Nat.le_of_ble_eq_true rfl, Nat.le_of_ble_eq_true rfl⟩ rfl hl.1 rfl (Nat.le_of_ble_eq_true rfl) dX8_await_21) (fun H locs hI => ?_)
  obtain ⟨g4, hm⟩ := g_is hm
  exact rZ X hI hr g4 (g_p hm).1 (g_p hm).2 dX8_await_24
def fX8_await  (x1 : Int32) (m : Mem) : Option (Int32 × Mem) := if (m.1 2 3) < 0 then (fX8_await_19 m) else (if (m.1 2 3) < (Int32.ofNat 72) then (if (m.1 2 3) < 0 ∨ 72 ≤ (m.1 2 3).toNatClampNeg then none else (some ((1 : Int32), (mI (mI m 3 (m.1 2 3).toNatClampNeg x1) 2 3 (((mI m 3 (m.1 2 3).toNatClampNeg x1).1 2 3) + (1 : Int32)))))) else (fX8_await_19 m))
set_option maxHeartbeats 4000000 in
set_option maxRecDepth 100000 in
theorem ctX8_await {l : Launch} {D : va_G} {ca : Nat → ClassId} {ad : Nat → Nat}  (x1 : Int32)  (hn : HNc ca) (m : Mem) (fin : (Int32 × Mem)) (hm : fX8_await x1 m = some fin) : CI l D ca ad yX8_await cwX8_await rmX8_await [.ref (ad 2), .int x1] m fin.1 fin.2 := by
  refine start (by decide) (Nat.le_of_ble_eq_true rfl) ?_
  intro p e s mm args below meth c H locs ls X hI hr hl
  have X : CX p s mm args meth c cX8_await 2 RX8 D ca ad (WA ca ad s.heap.size) := X
  have hx := X.1
  have hb := X.2.1
  have hl : lv_has ls 2 [(0, .ref (ad 2)), (1, .int x1)] := hl
  have hm : (if (m.1 2 3) < 0 then (fX8_await_19 m) else (if (m.1 2 3) < (Int32.ofNat 72) then (if (m.1 2 3) < 0 ∨ 72 ≤ (m.1 2 3).toNatClampNeg then none else (some ((1 : Int32), (mI (mI m 3 (m.1 2 3).toNatClampNeg x1) 2 3 (((mI m 3 (m.1 2 3).toNatClampNeg x1).1 2 3) + (1 : Int32)))))) else (fX8_await_19 m))) = some fin := hm
  refine lv_aload_n hx hb dX8_await_0 rfl (lv_at hl 0 rfl) ?_
  refine gI X hI fdX8_176 (la_2 hn) dX8_await_1 ?_
  refine lv_if_lt (tgt := 19) hx hb dX8_await_4 (by decide) (fun c1 => ?_) (fun c1 => ?_)
  · have hm := g_t c1 hm
    exact tX8_await_19  hn X hr fin  m H locs ls hI (lv_sub hl [0] rfl) hm
  · have hm := g_f c1 hm
    refine lv_aload_n hx hb dX8_await_7 rfl (lv_at hl 0 rfl) ?_
    refine gI X hI fdX8_176 (la_2 hn) dX8_await_8 ?_
    refine lv_aload_n hx hb dX8_await_11 rfl (lv_at hl 0 rfl) ?_
    refine gR X hI fdX8_13 (la_2 hn) rf8_1 dX8_await_12 ?_
    refine nA X hI (la_3 hn) dX8_await_15 ?_
    refine lv_icmp_lt (tgt := 25) hx hb dX8_await_16 (by decide) (fun c5 => ?_) (fun c5 => ?_)
    · have hm := g_t c5 hm
      refine lv_aload_n hx hb dX8_await_25 rfl (lv_at hl 0 rfl) ?_
      refine gR X hI fdX8_13 (la_2 hn) rf8_1 dX8_await_26 ?_
      refine lv_aload_n hx hb dX8_await_29 rfl (lv_at hl 0 rfl) ?_
      refine gI X hI fdX8_176 (la_2 hn) dX8_await_30 ?_
      refine lv_iload_n hx hb dX8_await_33 rfl (lv_at hl 1 rfl) ?_
      obtain ⟨g6, hm⟩ := g_no hm
      refine sI X hI (la_3 hn) g6 dX8_await_34 (fun H locs hI => ?_)
      refine lv_aload_n hx hb dX8_await_35 rfl (lv_at hl 0 rfl) ?_
      refine lv_dup hx hb dX8_await_36 rfl ?_
      refine gI X hI fdX8_176 (la_2 hn) dX8_await_37 ?_
      refine lv_iconst (v := (1 : Int32)) hx hb dX8_await_40 (by decide) ?_
      refine lv_iadd hx hb dX8_await_41 ?_
      refine pI X hI fpX8_176 (la_2 hn) dX8_await_42 (fun H locs hI => ?_)
      refine lv_iconst (v := (1 : Int32)) hx hb dX8_await_45 (by decide) ?_
      exact rZ X hI hr (by decide) (g_p hm).1 (g_p hm).2 dX8_await_46
    · have hm := g_f c5 hm
      exact tX8_await_19  hn X hr fin  m H locs ls hI (lv_sub hl [0] rfl) hm
abbrev rmX8_takeOpening : Room := { frames := 2, cells := 0, slots := 0, locals := 42 }
def fX8_takeOpening_16   (m : Mem) : Option (Int32 × Mem) := (fX8_fail (2 : Int32) m).bind (fun q2 => if q2.1 = 0 ∨ q2.1 = 1 then (some (q2.1, q2.2)) else none)
set_option maxHeartbeats 4000000 in
set_option maxRecDepth 100000 in
theorem tX8_takeOpening_16  {l : Launch} {D : va_G} {ca : Nat → ClassId} {ad : Nat → Nat} {p : Program} {e : Env} {s : State} {mm : MethodId} {args : Array Value} {below : List Frame} {meth : Method} {c : Code}  (hn : HNc ca) (X : CX p s mm args meth c cX8_takeOpening 1 RX8 D ca ad (WA ca ad s.heap.size)) (hr : meth.sig.returnType = (some .boolean)) (fin : (Int32 × Mem))  : ∀  (m : Mem) (H : Heap) (locs : List Loc) (ls : Array Slot), IW D ca ad (WA ca ad s.heap.size) s m H locs → lv_has ls 1 [(0, .ref (ad 2))] → fX8_takeOpening_16  m = some fin → W p l e rmX8_takeOpening s mm args below meth c H locs 0 0 (MQ below (QI D ca ad s.heap.size fin.1 fin.2) args s 0 0 (WA ca ad s.heap.size)) (F0 mm 16 ls []) := by
  have hx := X.1
  have hb := X.2.1
  intro m H locs ls hI hl hm
  have hm : ((fX8_fail (2 : Int32) m).bind (fun q2 => if q2.1 = 0 ∨ q2.1 = 1 then (some (q2.1, q2.2)) else none)) = some fin := hm
  refine lv_aload_n hx hb dX8_takeOpening_16 rfl (lv_at hl 0 rfl) ?_
  refine lv_iconst (v := (2 : Int32)) hx hb dX8_takeOpening_17 (by decide) ?_
  obtain ⟨q2, h3, hm⟩ := g_b hm
  refine backI X hI (runV X hI (ctX8_fail (2 : Int32)  hn _ _ h3 _) mdX8_106 (la_2 hn) rfl ⟨rfl, rfl⟩ ⟨Nat.le_of_ble_eq_true rfl, Nat.le_of_ble_eq_true rfl⟩ rfl hl.1 rfl (Nat.le_of_ble_eq_true rfl) dX8_takeOpening_18) (fun H locs hI => ?_)
  obtain ⟨g4, hm⟩ := g_is hm
  exact rZ X hI hr g4 (g_p hm).1 (g_p hm).2 dX8_takeOpening_21
def fX8_takeOpening   (m : Mem) : Option (Int32 × Mem) := if (m.1 2 4) < 0 then (fX8_takeOpening_16 m) else (if (m.1 2 4) < (8 : Int32) then (if ((mI m 2 4 ((m.1 2 4) + (1 : Int32))).1 2 4) < 0 ∨ 9 ≤ ((mI m 2 4 ((m.1 2 4) + (1 : Int32))).1 2 4).toNatClampNeg then none else ((fX8_await (23 : Int32) (mI (mI (mI m 2 4 ((m.1 2 4) + (1 : Int32))) 4 ((mI m 2 4 ((m.1 2 4) + (1 : Int32))).1 2 4).toNatClampNeg (vp_nar .boolean (0 : Int32))) 2 6 (1 : Int32))).bind (fun q7 => if q7.1 = 0 ∨ q7.1 = 1 then (some (q7.1, q7.2)) else none))) else (fX8_takeOpening_16 m))
set_option maxHeartbeats 4000000 in
set_option maxRecDepth 100000 in
theorem ctX8_takeOpening {l : Launch} {D : va_G} {ca : Nat → ClassId} {ad : Nat → Nat}    (hn : HNc ca) (m : Mem) (fin : (Int32 × Mem)) (hm : fX8_takeOpening  m = some fin) : CI l D ca ad yX8_takeOpening cwX8_takeOpening rmX8_takeOpening [.ref (ad 2)] m fin.1 fin.2 := by
  refine start (by decide) (Nat.le_of_ble_eq_true rfl) ?_
  intro p e s mm args below meth c H locs ls X hI hr hl
  have X : CX p s mm args meth c cX8_takeOpening 1 RX8 D ca ad (WA ca ad s.heap.size) := X
  have hx := X.1
  have hb := X.2.1
  have hl : lv_has ls 1 [(0, .ref (ad 2))] := hl
  have hm : (if (m.1 2 4) < 0 then (fX8_takeOpening_16 m) else (if (m.1 2 4) < (8 : Int32) then (if ((mI m 2 4 ((m.1 2 4) + (1 : Int32))).1 2 4) < 0 ∨ 9 ≤ ((mI m 2 4 ((m.1 2 4) + (1 : Int32))).1 2 4).toNatClampNeg then none else ((fX8_await (23 : Int32) (mI (mI (mI m 2 4 ((m.1 2 4) + (1 : Int32))) 4 ((mI m 2 4 ((m.1 2 4) + (1 : Int32))).1 2 4).toNatClampNeg (vp_nar .boolean (0 : Int32))) 2 6 (1 : Int32))).bind (fun q7 => if q7.1 = 0 ∨ q7.1 = 1 then (some (q7.1, q7.2)) else none))) else (fX8_takeOpening_16 m))) = some fin := hm
  refine lv_aload_n hx hb dX8_takeOpening_0 rfl (lv_at hl 0 rfl) ?_
  refine gI X hI fdX8_179 (la_2 hn) dX8_takeOpening_1 ?_
  refine lv_if_lt (tgt := 16) hx hb dX8_takeOpening_4 (by decide) (fun c1 => ?_) (fun c1 => ?_)
  · have hm := g_t c1 hm
    exact tX8_takeOpening_16  hn X hr fin  m H locs ls hI (lv_sub hl [0] rfl) hm
  · have hm := g_f c1 hm
    refine lv_aload_n hx hb dX8_takeOpening_7 rfl (lv_at hl 0 rfl) ?_
    refine gI X hI fdX8_179 (la_2 hn) dX8_takeOpening_8 ?_
    refine lv_bipush (v := (8 : Int32)) hx hb dX8_takeOpening_11 (by decide) ?_
    refine lv_icmp_lt (tgt := 22) hx hb dX8_takeOpening_13 (by decide) (fun c5 => ?_) (fun c5 => ?_)
    · have hm := g_t c5 hm
      refine lv_aload_n hx hb dX8_takeOpening_22 rfl (lv_at hl 0 rfl) ?_
      refine lv_dup hx hb dX8_takeOpening_23 rfl ?_
      refine gI X hI fdX8_179 (la_2 hn) dX8_takeOpening_24 ?_
      refine lv_iconst (v := (1 : Int32)) hx hb dX8_takeOpening_27 (by decide) ?_
      refine lv_iadd hx hb dX8_takeOpening_28 ?_
      refine pI X hI fpX8_179 (la_2 hn) dX8_takeOpening_29 (fun H locs hI => ?_)
      refine lv_aload_n hx hb dX8_takeOpening_32 rfl (lv_at hl 0 rfl) ?_
      refine gR X hI fdX8_17 (la_2 hn) rf8_2 dX8_takeOpening_33 ?_
      refine lv_aload_n hx hb dX8_takeOpening_36 rfl (lv_at hl 0 rfl) ?_
      refine gI X hI fdX8_179 (la_2 hn) dX8_takeOpening_37 ?_
      refine lv_iconst (v := (0 : Int32)) hx hb dX8_takeOpening_40 (by decide) ?_
      obtain ⟨g6, hm⟩ := g_no hm
      refine sZ X hI (la_4 hn) g6 dX8_takeOpening_41 (fun H locs hI => ?_)
      refine lv_aload_n hx hb dX8_takeOpening_42 rfl (lv_at hl 0 rfl) ?_
      refine lv_iconst (v := (1 : Int32)) hx hb dX8_takeOpening_43 (by decide) ?_
      refine pZ X hI fpX8_185 (la_2 hn) (by decide) dX8_takeOpening_44 (fun H locs hI => ?_)
      refine lv_aload_n hx hb dX8_takeOpening_47 rfl (lv_at hl 0 rfl) ?_
      refine lv_bipush (v := (23 : Int32)) hx hb dX8_takeOpening_48 (by decide) ?_
      obtain ⟨q7, h8, hm⟩ := g_b hm
      refine backI X hI (runV X hI (ctX8_await (23 : Int32)  hn _ _ h8 _) mdX8_206 (la_2 hn) rfl ⟨rfl, rfl⟩ ⟨Nat.le_of_ble_eq_true rfl, Nat.le_of_ble_eq_true rfl⟩ rfl hl.1 rfl (Nat.le_of_ble_eq_true rfl) dX8_takeOpening_50) (fun H locs hI => ?_)
      obtain ⟨g9, hm⟩ := g_is hm
      exact rZ X hI hr g9 (g_p hm).1 (g_p hm).2 dX8_takeOpening_53
    · have hm := g_f c5 hm
      exact tX8_takeOpening_16  hn X hr fin  m H locs ls hI (lv_sub hl [0] rfl) hm
abbrev rmX8_countKnot : Room := { frames := 1, cells := 0, slots := 0, locals := 21 }
def fX8_countKnot  (x1 : Nat) (m : Mem) : Option (Int32 × Mem) := if (m.1 x1 6) < (64 : Int32) then (some ((1 : Int32), (mI m x1 6 ((m.1 x1 6) + (1 : Int32))))) else ((fX8_fail (2 : Int32) m).bind (fun q2 => if q2.1 = 0 ∨ q2.1 = 1 then (some (q2.1, q2.2)) else none))
set_option maxHeartbeats 4000000 in
set_option maxRecDepth 100000 in
theorem ctX8_countKnot {l : Launch} {D : va_G} {ca : Nat → ClassId} {ad : Nat → Nat}  (x1 : Nat) (hx1 : ly ca x1 = (0, 3)) (hn : HNc ca) (m : Mem) (fin : (Int32 × Mem)) (hm : fX8_countKnot x1 m = some fin) : CI l D ca ad yX8_countKnot cwX8_countKnot rmX8_countKnot [.ref (ad 2), .ref (ad x1)] m fin.1 fin.2 := by
  refine start (by decide) (Nat.le_of_ble_eq_true rfl) ?_
  intro p e s mm args below meth c H locs ls X hI hr hl
  have X : CX p s mm args meth c cX8_countKnot 2 RX8 D ca ad (WA ca ad s.heap.size) := X
  have hx := X.1
  have hb := X.2.1
  have hl : lv_has ls 2 [(0, .ref (ad 2)), (1, .ref (ad x1))] := hl
  have hm : (if (m.1 x1 6) < (64 : Int32) then (some ((1 : Int32), (mI m x1 6 ((m.1 x1 6) + (1 : Int32))))) else ((fX8_fail (2 : Int32) m).bind (fun q2 => if q2.1 = 0 ∨ q2.1 = 1 then (some (q2.1, q2.2)) else none))) = some fin := hm
  refine lv_aload_n hx hb dX8_countKnot_0 rfl (lv_at hl 1 rfl) ?_
  refine gI X hI fdX8_215 hx1 dX8_countKnot_1 ?_
  refine lv_bipush (v := (64 : Int32)) hx hb dX8_countKnot_4 (by decide) ?_
  refine lv_icmp_lt (tgt := 15) hx hb dX8_countKnot_6 (by decide) (fun c1 => ?_) (fun c1 => ?_)
  · have hm := g_t c1 hm
    refine lv_aload_n hx hb dX8_countKnot_15 rfl (lv_at hl 1 rfl) ?_
    refine lv_dup hx hb dX8_countKnot_16 rfl ?_
    refine gI X hI fdX8_215 hx1 dX8_countKnot_17 ?_
    refine lv_iconst (v := (1 : Int32)) hx hb dX8_countKnot_20 (by decide) ?_
    refine lv_iadd hx hb dX8_countKnot_21 ?_
    refine pI X hI fpX8_215 hx1 dX8_countKnot_22 (fun H locs hI => ?_)
    refine lv_iconst (v := (1 : Int32)) hx hb dX8_countKnot_25 (by decide) ?_
    exact rZ X hI hr (by decide) (g_p hm).1 (g_p hm).2 dX8_countKnot_26
  · have hm := g_f c1 hm
    refine lv_aload_n hx hb dX8_countKnot_9 rfl (lv_at hl 0 rfl) ?_
    refine lv_iconst (v := (2 : Int32)) hx hb dX8_countKnot_10 (by decide) ?_
    obtain ⟨q2, h3, hm⟩ := g_b hm
    refine backI X hI (runV X hI (ctX8_fail (2 : Int32)  hn _ _ h3 _) mdX8_106 (la_2 hn) rfl ⟨rfl, rfl⟩ ⟨Nat.le_of_ble_eq_true rfl, Nat.le_of_ble_eq_true rfl⟩ rfl hl.1 rfl (Nat.le_of_ble_eq_true rfl) dX8_countKnot_11) (fun H locs hI => ?_)
    obtain ⟨g4, hm⟩ := g_is hm
    exact rZ X hI hr g4 (g_p hm).1 (g_p hm).2 dX8_countKnot_14
abbrev rmX8_takeOperand : Room := { frames := 3, cells := 0, slots := 0, locals := 62 }
def fX8_takeOperand_66   (m : Mem) : Option (Int32 × Mem) := (fX8_fail (1 : Int32) m).bind (fun q4 => if q4.1 = 0 ∨ q4.1 = 1 then (some (q4.1, q4.2)) else none)
set_option maxHeartbeats 4000000 in
set_option maxRecDepth 100000 in
theorem tX8_takeOperand_66  {l : Launch} {D : va_G} {ca : Nat → ClassId} {ad : Nat → Nat} {p : Program} {e : Env} {s : State} {mm : MethodId} {args : Array Value} {below : List Frame} {meth : Method} {c : Code}  (hn : HNc ca) (X : CX p s mm args meth c cX8_takeOperand 3 RX8 D ca ad (WA ca ad s.heap.size)) (hr : meth.sig.returnType = (some .boolean)) (fin : (Int32 × Mem))  : ∀  (m : Mem) (H : Heap) (locs : List Loc) (ls : Array Slot), IW D ca ad (WA ca ad s.heap.size) s m H locs → lv_has ls 3 [(0, .ref (ad 2))] → fX8_takeOperand_66  m = some fin → W p l e rmX8_takeOperand s mm args below meth c H locs 0 0 (MQ below (QI D ca ad s.heap.size fin.1 fin.2) args s 0 0 (WA ca ad s.heap.size)) (F0 mm 66 ls []) := by
  have hx := X.1
  have hb := X.2.1
  intro m H locs ls hI hl hm
  have hm : ((fX8_fail (1 : Int32) m).bind (fun q4 => if q4.1 = 0 ∨ q4.1 = 1 then (some (q4.1, q4.2)) else none)) = some fin := hm
  refine lv_aload_n hx hb dX8_takeOperand_66 rfl (lv_at hl 0 rfl) ?_
  refine lv_iconst (v := (1 : Int32)) hx hb dX8_takeOperand_67 (by decide) ?_
  obtain ⟨q4, h5, hm⟩ := g_b hm
  refine backI X hI (runV X hI (ctX8_fail (1 : Int32)  hn _ _ h5 _) mdX8_106 (la_2 hn) rfl ⟨rfl, rfl⟩ ⟨Nat.le_of_ble_eq_true rfl, Nat.le_of_ble_eq_true rfl⟩ rfl hl.1 rfl (Nat.le_of_ble_eq_true rfl) dX8_takeOperand_68) (fun H locs hI => ?_)
  obtain ⟨g6, hm⟩ := g_is hm
  exact rZ X hI hr g6 (g_p hm).1 (g_p hm).2 dX8_takeOperand_71
def fX8_takeOperand_97  (x1 : Nat) (x2 : Int32) (m : Mem) : Option (Int32 × Mem) := (fX8_countKnot x1 m).bind (fun q9 => if q9.1 = 0 then (some ((0 : Int32), q9.2)) else ((fX3_put x1 x2 (q9.2.1 5 6) q9.2).bind (fun q12 => some ((1 : Int32), (mI q12 2 5 (0 : Int32))))))
set_option maxHeartbeats 4000000 in
set_option maxRecDepth 100000 in
theorem tX8_takeOperand_97  {l : Launch} {D : va_G} {ca : Nat → ClassId} {ad : Nat → Nat} {p : Program} {e : Env} {s : State} {mm : MethodId} {args : Array Value} {below : List Frame} {meth : Method} {c : Code}  (hn : HNc ca) (X : CX p s mm args meth c cX8_takeOperand 3 RX8 D ca ad (WA ca ad s.heap.size)) (hr : meth.sig.returnType = (some .boolean)) (fin : (Int32 × Mem))  : ∀ (x1 : Nat) (x2 : Int32) (m : Mem) (H : Heap) (locs : List Loc) (ls : Array Slot), ly ca x1 = (0, 3) → IW D ca ad (WA ca ad s.heap.size) s m H locs → lv_has ls 3 [(0, .ref (ad 2)), (1, .ref (ad x1)), (2, .int x2)] → fX8_takeOperand_97  x1 x2 m = some fin → W p l e rmX8_takeOperand s mm args below meth c H locs 0 0 (MQ below (QI D ca ad s.heap.size fin.1 fin.2) args s 0 0 (WA ca ad s.heap.size)) (F0 mm 97 ls []) := by
  have hx := X.1
  have hb := X.2.1
  intro x1 x2 m H locs ls hx1 hI hl hm
  have hm : ((fX8_countKnot x1 m).bind (fun q9 => if q9.1 = 0 then (some ((0 : Int32), q9.2)) else ((fX3_put x1 x2 (q9.2.1 5 6) q9.2).bind (fun q12 => some ((1 : Int32), (mI q12 2 5 (0 : Int32))))))) = some fin := hm
  refine lv_aload_n hx hb dX8_takeOperand_97 rfl (lv_at hl 0 rfl) ?_
  refine lv_aload_n hx hb dX8_takeOperand_98 rfl (lv_at hl 1 rfl) ?_
  obtain ⟨q9, h10, hm⟩ := g_b hm
  refine backI X hI (runV X hI (ctX8_countKnot x1 hx1 hn _ _ h10 _) mdX8_203 (la_2 hn) rfl ⟨rfl, rfl⟩ ⟨Nat.le_of_ble_eq_true rfl, Nat.le_of_ble_eq_true rfl⟩ rfl hl.1 rfl (Nat.le_of_ble_eq_true rfl) dX8_takeOperand_99) (fun H locs hI => ?_)
  refine lv_if_ne (tgt := 107) hx hb dX8_takeOperand_102 (by decide) (fun c11 => ?_) (fun c11 => ?_)
  · have hm := g_f c11 hm
    refine lv_aload_n hx hb dX8_takeOperand_107 rfl (lv_at hl 1 rfl) ?_
    refine lv_iload_n hx hb dX8_takeOperand_108 rfl (lv_at hl 2 rfl) ?_
    refine lv_aload_n hx hb dX8_takeOperand_109 rfl (lv_at hl 0 rfl) ?_
    refine gR X hI fdX8_30 (la_2 hn) rf8_0 dX8_takeOperand_110 ?_
    refine gI X hI fdX8_133 (la_5 hn) dX8_takeOperand_113 ?_
    obtain ⟨q12, h13, hm⟩ := g_b hm
    refine backV X hI (runV X hI (ctX3_put x1 x2 (q9.2.1 5 6) hx1 hn _ _ h13 _) mdX8_209 hx1 rfl ⟨rfl, rfl⟩ ⟨Nat.le_of_ble_eq_true rfl, Nat.le_of_ble_eq_true rfl⟩ rfl hl.1 rfl (Nat.le_of_ble_eq_true rfl) dX8_takeOperand_116) (fun H locs hI => ?_)
    refine lv_aload_n hx hb dX8_takeOperand_119 rfl (lv_at hl 0 rfl) ?_
    refine lv_iconst (v := (0 : Int32)) hx hb dX8_takeOperand_120 (by decide) ?_
    refine pZ X hI fpX8_182 (la_2 hn) (by decide) dX8_takeOperand_121 (fun H locs hI => ?_)
    refine lv_iconst (v := (1 : Int32)) hx hb dX8_takeOperand_124 (by decide) ?_
    exact rZ X hI hr (by decide) (g_p hm).1 (g_p hm).2 dX8_takeOperand_125
  · have hm := g_t c11 hm
    refine lv_iconst (v := (0 : Int32)) hx hb dX8_takeOperand_105 (by decide) ?_
    exact rZ X hI hr (by decide) (g_p hm).1 (g_p hm).2 dX8_takeOperand_106
def fX8_takeOperand_54  (x1 : Nat) (x2 : Int32) (m : Mem) : Option (Int32 × Mem) := if x2 < (14 : Int32) then (fX8_takeOperand_66 m) else (if x2 ≤ (21 : Int32) then (if (m.1 5 6) ≤ (9999 : Int32) then (fX8_takeOperand_97 x1 x2 m) else (if x2 = (21 : Int32) then ((fX8_fail (2 : Int32) m).bind (fun q15 => if q15.1 = 0 ∨ q15.1 = 1 then (some (q15.1, q15.2)) else none)) else (fX8_takeOperand_97 x1 x2 m))) else (fX8_takeOperand_66 m))
set_option maxHeartbeats 4000000 in
set_option maxRecDepth 100000 in
theorem tX8_takeOperand_54  {l : Launch} {D : va_G} {ca : Nat → ClassId} {ad : Nat → Nat} {p : Program} {e : Env} {s : State} {mm : MethodId} {args : Array Value} {below : List Frame} {meth : Method} {c : Code}  (hn : HNc ca) (X : CX p s mm args meth c cX8_takeOperand 3 RX8 D ca ad (WA ca ad s.heap.size)) (hr : meth.sig.returnType = (some .boolean)) (fin : (Int32 × Mem))  : ∀ (x1 : Nat) (x2 : Int32) (m : Mem) (H : Heap) (locs : List Loc) (ls : Array Slot), ly ca x1 = (0, 3) → IW D ca ad (WA ca ad s.heap.size) s m H locs → lv_has ls 3 [(0, .ref (ad 2)), (1, .ref (ad x1)), (2, .int x2)] → fX8_takeOperand_54  x1 x2 m = some fin → W p l e rmX8_takeOperand s mm args below meth c H locs 0 0 (MQ below (QI D ca ad s.heap.size fin.1 fin.2) args s 0 0 (WA ca ad s.heap.size)) (F0 mm 54 ls []) := by
  have hx := X.1
  have hb := X.2.1
  intro x1 x2 m H locs ls hx1 hI hl hm
  have hm : (if x2 < (14 : Int32) then (fX8_takeOperand_66 m) else (if x2 ≤ (21 : Int32) then (if (m.1 5 6) ≤ (9999 : Int32) then (fX8_takeOperand_97 x1 x2 m) else (if x2 = (21 : Int32) then ((fX8_fail (2 : Int32) m).bind (fun q15 => if q15.1 = 0 ∨ q15.1 = 1 then (some (q15.1, q15.2)) else none)) else (fX8_takeOperand_97 x1 x2 m))) else (fX8_takeOperand_66 m))) = some fin := hm
  refine lv_iload_n hx hb dX8_takeOperand_54 rfl (lv_at hl 2 rfl) ?_
  refine lv_bipush (v := (14 : Int32)) hx hb dX8_takeOperand_55 (by decide) ?_
  refine lv_icmp_lt (tgt := 66) hx hb dX8_takeOperand_57 (by decide) (fun c3 => ?_) (fun c3 => ?_)
  · have hm := g_t c3 hm
    exact tX8_takeOperand_66  hn X hr fin  m H locs ls hI (lv_sub hl [0] rfl) hm
  · have hm := g_f c3 hm
    refine lv_iload_n hx hb dX8_takeOperand_60 rfl (lv_at hl 2 rfl) ?_
    refine lv_bipush (v := (21 : Int32)) hx hb dX8_takeOperand_61 (by decide) ?_
    refine lv_icmp_le (tgt := 72) hx hb dX8_takeOperand_63 (by decide) (fun c7 => ?_) (fun c7 => ?_)
    · have hm := g_t c7 hm
      refine lv_aload_n hx hb dX8_takeOperand_72 rfl (lv_at hl 0 rfl) ?_
      refine gR X hI fdX8_30 (la_2 hn) rf8_0 dX8_takeOperand_73 ?_
      refine gI X hI fdX8_133 (la_5 hn) dX8_takeOperand_76 ?_
      refine lv_sipush (v := (9999 : Int32)) hx hb dX8_takeOperand_79 (by decide) ?_
      refine lv_icmp_le (tgt := 97) hx hb dX8_takeOperand_82 (by decide) (fun c8 => ?_) (fun c8 => ?_)
      · have hm := g_t c8 hm
        exact tX8_takeOperand_97  hn X hr fin  x1 x2 m H locs ls hx1 hI (lv_sub hl [0, 1, 2] rfl) hm
      · have hm := g_f c8 hm
        refine lv_iload_n hx hb dX8_takeOperand_85 rfl (lv_at hl 2 rfl) ?_
        refine lv_bipush (v := (21 : Int32)) hx hb dX8_takeOperand_86 (by decide) ?_
        refine lv_icmp_ne (tgt := 97) hx hb dX8_takeOperand_88 (by decide) (fun c14 => ?_) (fun c14 => ?_)
        · have hm := g_f c14 hm
          exact tX8_takeOperand_97  hn X hr fin  x1 x2 m H locs ls hx1 hI (lv_sub hl [0, 1, 2] rfl) hm
        · have hm := g_t c14 hm
          refine lv_aload_n hx hb dX8_takeOperand_91 rfl (lv_at hl 0 rfl) ?_
          refine lv_iconst (v := (2 : Int32)) hx hb dX8_takeOperand_92 (by decide) ?_
          obtain ⟨q15, h16, hm⟩ := g_b hm
          refine backI X hI (runV X hI (ctX8_fail (2 : Int32)  hn _ _ h16 _) mdX8_106 (la_2 hn) rfl ⟨rfl, rfl⟩ ⟨Nat.le_of_ble_eq_true rfl, Nat.le_of_ble_eq_true rfl⟩ rfl hl.1 rfl (Nat.le_of_ble_eq_true rfl) dX8_takeOperand_93) (fun H locs hI => ?_)
          obtain ⟨g17, hm⟩ := g_is hm
          exact rZ X hI hr g17 (g_p hm).1 (g_p hm).2 dX8_takeOperand_96
    · have hm := g_f c7 hm
      exact tX8_takeOperand_66  hn X hr fin  m H locs ls hI (lv_sub hl [0] rfl) hm
def fX8_takeOperand  (x1 : Nat) (m : Mem) : Option (Int32 × Mem) := if (m.1 5 4) = (23 : Int32) then ((fX8_takeOpening  m).bind (fun q25 => if q25.1 = 0 ∨ q25.1 = 1 then (some (q25.1, q25.2)) else none)) else (if (m.1 5 4) = (13 : Int32) then (if (m.1 2 6) = 0 then (fX8_takeOperand_54 x1 (m.1 5 4) m) else ((fX8_countKnot x1 m).bind (fun q19 => if q19.1 = 0 then (some ((0 : Int32), q19.2)) else ((fX8_await (m.1 5 4) q19.2).bind (fun q22 => if q22.1 = 0 then (some ((0 : Int32), q22.2)) else (some ((1 : Int32), q22.2))))))) else (fX8_takeOperand_54 x1 (m.1 5 4) m))
set_option maxHeartbeats 4000000 in
set_option maxRecDepth 100000 in
theorem ctX8_takeOperand {l : Launch} {D : va_G} {ca : Nat → ClassId} {ad : Nat → Nat}  (x1 : Nat) (hx1 : ly ca x1 = (0, 3)) (hn : HNc ca) (m : Mem) (fin : (Int32 × Mem)) (hm : fX8_takeOperand x1 m = some fin) : CI l D ca ad yX8_takeOperand cwX8_takeOperand rmX8_takeOperand [.ref (ad 2), .ref (ad x1)] m fin.1 fin.2 := by
  refine start (by decide) (Nat.le_of_ble_eq_true rfl) ?_
  intro p e s mm args below meth c H locs ls X hI hr hl
  have X : CX p s mm args meth c cX8_takeOperand 3 RX8 D ca ad (WA ca ad s.heap.size) := X
  have hx := X.1
  have hb := X.2.1
  have hl : lv_has ls 3 [(0, .ref (ad 2)), (1, .ref (ad x1))] := hl
  have hm : (if (m.1 5 4) = (23 : Int32) then ((fX8_takeOpening  m).bind (fun q25 => if q25.1 = 0 ∨ q25.1 = 1 then (some (q25.1, q25.2)) else none)) else (if (m.1 5 4) = (13 : Int32) then (if (m.1 2 6) = 0 then (fX8_takeOperand_54 x1 (m.1 5 4) m) else ((fX8_countKnot x1 m).bind (fun q19 => if q19.1 = 0 then (some ((0 : Int32), q19.2)) else ((fX8_await (m.1 5 4) q19.2).bind (fun q22 => if q22.1 = 0 then (some ((0 : Int32), q22.2)) else (some ((1 : Int32), q22.2))))))) else (fX8_takeOperand_54 x1 (m.1 5 4) m))) = some fin := hm
  refine lv_aload_n hx hb dX8_takeOperand_0 rfl (lv_at hl 0 rfl) ?_
  refine gR X hI fdX8_30 (la_2 hn) rf8_0 dX8_takeOperand_1 ?_
  refine gI X hI fdX8_46 (la_5 hn) dX8_takeOperand_4 ?_
  refine lv_istore_n (lv' := [(2, .int (m.1 5 4)), (0, .ref (ad 2)), (1, .ref (ad x1))]) hx hb dX8_takeOperand_7 rfl hl (by decide) rfl (fun ls hl => ?_)
  refine lv_iload_n hx hb dX8_takeOperand_8 rfl (lv_at hl 0 rfl) ?_
  refine lv_bipush (v := (23 : Int32)) hx hb dX8_takeOperand_9 (by decide) ?_
  refine lv_icmp_ne (tgt := 19) hx hb dX8_takeOperand_11 (by decide) (fun c1 => ?_) (fun c1 => ?_)
  · have hm := g_f c1 hm
    refine lv_iload_n hx hb dX8_takeOperand_19 rfl (lv_at hl 0 rfl) ?_
    refine lv_bipush (v := (13 : Int32)) hx hb dX8_takeOperand_20 (by decide) ?_
    refine lv_icmp_ne (tgt := 54) hx hb dX8_takeOperand_22 (by decide) (fun c2 => ?_) (fun c2 => ?_)
    · have hm := g_f c2 hm
      exact tX8_takeOperand_54  hn X hr fin  x1 (m.1 5 4) m H locs ls hx1 hI (lv_sub hl [1, 2, 0] rfl) hm
    · have hm := g_t c2 hm
      refine lv_aload_n hx hb dX8_takeOperand_25 rfl (lv_at hl 1 rfl) ?_
      refine gI X hI fdX8_185 (la_2 hn) dX8_takeOperand_26 ?_
      refine lv_if_eq (tgt := 54) hx hb dX8_takeOperand_29 (by decide) (fun c18 => ?_) (fun c18 => ?_)
      · have hm := g_t c18 hm
        exact tX8_takeOperand_54  hn X hr fin  x1 (m.1 5 4) m H locs ls hx1 hI (lv_sub hl [1, 2, 0] rfl) hm
      · have hm := g_f c18 hm
        refine lv_aload_n hx hb dX8_takeOperand_32 rfl (lv_at hl 1 rfl) ?_
        refine lv_aload_n hx hb dX8_takeOperand_33 rfl (lv_at hl 2 rfl) ?_
        obtain ⟨q19, h20, hm⟩ := g_b hm
        refine backI X hI (runV X hI (ctX8_countKnot x1 hx1 hn _ _ h20 _) mdX8_203 (la_2 hn) rfl ⟨rfl, rfl⟩ ⟨Nat.le_of_ble_eq_true rfl, Nat.le_of_ble_eq_true rfl⟩ rfl hl.1 rfl (Nat.le_of_ble_eq_true rfl) dX8_takeOperand_34) (fun H locs hI => ?_)
        refine lv_if_eq (tgt := 52) hx hb dX8_takeOperand_37 (by decide) (fun c21 => ?_) (fun c21 => ?_)
        · have hm := g_t c21 hm
          refine lv_iconst (v := (0 : Int32)) hx hb dX8_takeOperand_52 (by decide) ?_
          exact rZ X hI hr (by decide) (g_p hm).1 (g_p hm).2 dX8_takeOperand_53
        · have hm := g_f c21 hm
          refine lv_aload_n hx hb dX8_takeOperand_40 rfl (lv_at hl 1 rfl) ?_
          refine lv_iload_n hx hb dX8_takeOperand_41 rfl (lv_at hl 0 rfl) ?_
          obtain ⟨q22, h23, hm⟩ := g_b hm
          refine backI X hI (runV X hI (ctX8_await (m.1 5 4)  hn _ _ h23 _) mdX8_206 (la_2 hn) rfl ⟨rfl, rfl⟩ ⟨Nat.le_of_ble_eq_true rfl, Nat.le_of_ble_eq_true rfl⟩ rfl hl.1 rfl (Nat.le_of_ble_eq_true rfl) dX8_takeOperand_42) (fun H locs hI => ?_)
          refine lv_if_eq (tgt := 52) hx hb dX8_takeOperand_45 (by decide) (fun c24 => ?_) (fun c24 => ?_)
          · have hm := g_t c24 hm
            refine lv_iconst (v := (0 : Int32)) hx hb dX8_takeOperand_52 (by decide) ?_
            exact rZ X hI hr (by decide) (g_p hm).1 (g_p hm).2 dX8_takeOperand_53
          · have hm := g_f c24 hm
            refine lv_iconst (v := (1 : Int32)) hx hb dX8_takeOperand_48 (by decide) ?_
            refine lv_goto (tgt := 53) hx hb dX8_takeOperand_49 (by decide) ?_
            exact rZ X hI hr (by decide) (g_p hm).1 (g_p hm).2 dX8_takeOperand_53
  · have hm := g_t c1 hm
    refine lv_aload_n hx hb dX8_takeOperand_14 rfl (lv_at hl 1 rfl) ?_
    obtain ⟨q25, h26, hm⟩ := g_b hm
    refine backI X hI (runV X hI (ctX8_takeOpening   hn _ _ h26 _) mdX8_200 (la_2 hn) rfl ⟨rfl, rfl⟩ ⟨Nat.le_of_ble_eq_true rfl, Nat.le_of_ble_eq_true rfl⟩ rfl hl.1 rfl (Nat.le_of_ble_eq_true rfl) dX8_takeOperand_15) (fun H locs hI => ?_)
    obtain ⟨g27, hm⟩ := g_is hm
    exact rZ X hI hr g27 (g_p hm).1 (g_p hm).2 dX8_takeOperand_18
abbrev rmX8_takeSign : Room := { frames := 2, cells := 0, slots := 0, locals := 46 }
def fX8_takeSign_92 (N : Nat)  (m : Mem) : Option (Int32 × Mem) := (fX8_fail (1 : Int32) m).bind (fun q6 => if q6.1 = 0 ∨ q6.1 = 1 then (some (q6.1, q6.2)) else none)
set_option maxHeartbeats 4000000 in
set_option maxRecDepth 100000 in
theorem tX8_takeSign_92 (N : Nat) {l : Launch} {D : va_G} {ca : Nat → ClassId} {ad : Nat → Nat} {p : Program} {e : Env} {s : State} {mm : MethodId} {args : Array Value} {below : List Frame} {meth : Method} {c : Code}  (hn : HNc ca) (X : CX p s mm args meth c cX8_takeSign 5 RX8 D ca ad (WA ca ad s.heap.size)) (hr : meth.sig.returnType = (some .boolean)) (fin : (Int32 × Mem))  : ∀  (m : Mem) (H : Heap) (locs : List Loc) (ls : Array Slot), IW D ca ad (WA ca ad s.heap.size) s m H locs → lv_has ls 5 [(0, .ref (ad 2))] → fX8_takeSign_92 N m = some fin → W p l e rmX8_takeSign s mm args below meth c H locs 0 0 (MQ below (QI D ca ad s.heap.size fin.1 fin.2) args s 0 0 (WA ca ad s.heap.size)) (F0 mm 92 ls []) := by
  have hx := X.1
  have hb := X.2.1
  intro m H locs ls hI hl hm
  have hm : ((fX8_fail (1 : Int32) m).bind (fun q6 => if q6.1 = 0 ∨ q6.1 = 1 then (some (q6.1, q6.2)) else none)) = some fin := hm
  refine lv_aload_n hx hb dX8_takeSign_92 rfl (lv_at hl 0 rfl) ?_
  refine lv_iconst (v := (1 : Int32)) hx hb dX8_takeSign_93 (by decide) ?_
  obtain ⟨q6, h7, hm⟩ := g_b hm
  refine backI X hI (runV X hI (ctX8_fail (1 : Int32)  hn _ _ h7 _) mdX8_106 (la_2 hn) rfl ⟨rfl, rfl⟩ ⟨Nat.le_of_ble_eq_true rfl, Nat.le_of_ble_eq_true rfl⟩ rfl hl.1 rfl (Nat.le_of_ble_eq_true rfl) dX8_takeSign_94) (fun H locs hI => ?_)
  obtain ⟨g8, hm⟩ := g_is hm
  exact rZ X hI hr g8 (g_p hm).1 (g_p hm).2 dX8_takeSign_97
def fX8_takeSign_189 (N : Nat) (x2 : Int32) (y0 : Int32) (m : Mem) : Option (Int32 × Mem) := if y0 = 0 ∨ y0 = 1 then ((fX8_await x2 (mI m 2 6 y0)).bind (fun q22 => if q22.1 = 0 ∨ q22.1 = 1 then (some (q22.1, q22.2)) else none)) else none
set_option maxHeartbeats 4000000 in
set_option maxRecDepth 100000 in
theorem tX8_takeSign_189 (N : Nat) {l : Launch} {D : va_G} {ca : Nat → ClassId} {ad : Nat → Nat} {p : Program} {e : Env} {s : State} {mm : MethodId} {args : Array Value} {below : List Frame} {meth : Method} {c : Code}  (hn : HNc ca) (X : CX p s mm args meth c cX8_takeSign 5 RX8 D ca ad (WA ca ad s.heap.size)) (hr : meth.sig.returnType = (some .boolean)) (fin : (Int32 × Mem))  : ∀ (x2 : Int32) (y0 : Int32) (m : Mem) (H : Heap) (locs : List Loc) (ls : Array Slot), IW D ca ad (WA ca ad s.heap.size) s m H locs → lv_has ls 5 [(0, .ref (ad 2)), (2, .int x2)] → fX8_takeSign_189 N x2 y0 m = some fin → W p l e rmX8_takeSign s mm args below meth c H locs 0 0 (MQ below (QI D ca ad s.heap.size fin.1 fin.2) args s 0 0 (WA ca ad s.heap.size)) (F0 mm 189 ls [.int y0, .ref (ad 2)]) := by
  have hx := X.1
  have hb := X.2.1
  intro x2 y0 m H locs ls hI hl hm
  have hm : (if y0 = 0 ∨ y0 = 1 then ((fX8_await x2 (mI m 2 6 y0)).bind (fun q22 => if q22.1 = 0 ∨ q22.1 = 1 then (some (q22.1, q22.2)) else none)) else none) = some fin := hm
  obtain ⟨g21, hm⟩ := g_is hm
  refine pZ X hI fpX8_185 (la_2 hn) g21 dX8_takeSign_189 (fun H locs hI => ?_)
  refine lv_aload_n hx hb dX8_takeSign_192 rfl (lv_at hl 0 rfl) ?_
  refine lv_iload_n hx hb dX8_takeSign_193 rfl (lv_at hl 1 rfl) ?_
  obtain ⟨q22, h23, hm⟩ := g_b hm
  refine backI X hI (runV X hI (ctX8_await x2  hn _ _ h23 _) mdX8_206 (la_2 hn) rfl ⟨rfl, rfl⟩ ⟨Nat.le_of_ble_eq_true rfl, Nat.le_of_ble_eq_true rfl⟩ rfl hl.1 rfl (Nat.le_of_ble_eq_true rfl) dX8_takeSign_194) (fun H locs hI => ?_)
  obtain ⟨g24, hm⟩ := g_is hm
  exact rZ X hI hr g24 (g_p hm).1 (g_p hm).2 dX8_takeSign_197
def fX8_takeSign_172 (N : Nat) (x2 : Int32) (x3 : Int32) (y0 : Int32) (y1 : Int32) (m : Mem) : Option (Int32 × Mem) := if y1 < 0 ∨ 9 ≤ y1.toNatClampNeg then none else (if (4 : Int32) ≤ x3 then (fX8_takeSign_189 N x2 (0 : Int32) (mI (mI m 4 y1.toNatClampNeg (vp_nar .boolean y0)) 2 5 (1 : Int32))) else (fX8_takeSign_189 N x2 (1 : Int32) (mI (mI m 4 y1.toNatClampNeg (vp_nar .boolean y0)) 2 5 (1 : Int32))))
set_option maxHeartbeats 4000000 in
set_option maxRecDepth 100000 in
theorem tX8_takeSign_172 (N : Nat) {l : Launch} {D : va_G} {ca : Nat → ClassId} {ad : Nat → Nat} {p : Program} {e : Env} {s : State} {mm : MethodId} {args : Array Value} {below : List Frame} {meth : Method} {c : Code}  (hn : HNc ca) (X : CX p s mm args meth c cX8_takeSign 5 RX8 D ca ad (WA ca ad s.heap.size)) (hr : meth.sig.returnType = (some .boolean)) (fin : (Int32 × Mem))  : ∀ (x2 : Int32) (x3 : Int32) (y0 : Int32) (y1 : Int32) (m : Mem) (H : Heap) (locs : List Loc) (ls : Array Slot), IW D ca ad (WA ca ad s.heap.size) s m H locs → lv_has ls 5 [(0, .ref (ad 2)), (2, .int x2), (3, .int x3)] → fX8_takeSign_172 N x2 x3 y0 y1 m = some fin → W p l e rmX8_takeSign s mm args below meth c H locs 0 0 (MQ below (QI D ca ad s.heap.size fin.1 fin.2) args s 0 0 (WA ca ad s.heap.size)) (F0 mm 172 ls [.int y0, .int y1, .ref (ad 4)]) := by
  have hx := X.1
  have hb := X.2.1
  intro x2 x3 y0 y1 m H locs ls hI hl hm
  have hm : (if y1 < 0 ∨ 9 ≤ y1.toNatClampNeg then none else (if (4 : Int32) ≤ x3 then (fX8_takeSign_189 N x2 (0 : Int32) (mI (mI m 4 y1.toNatClampNeg (vp_nar .boolean y0)) 2 5 (1 : Int32))) else (fX8_takeSign_189 N x2 (1 : Int32) (mI (mI m 4 y1.toNatClampNeg (vp_nar .boolean y0)) 2 5 (1 : Int32))))) = some fin := hm
  obtain ⟨g19, hm⟩ := g_no hm
  refine sZ X hI (la_4 hn) g19 dX8_takeSign_172 (fun H locs hI => ?_)
  refine lv_aload_n hx hb dX8_takeSign_173 rfl (lv_at hl 0 rfl) ?_
  refine lv_iconst (v := (1 : Int32)) hx hb dX8_takeSign_174 (by decide) ?_
  refine pZ X hI fpX8_182 (la_2 hn) (by decide) dX8_takeSign_175 (fun H locs hI => ?_)
  refine lv_aload_n hx hb dX8_takeSign_178 rfl (lv_at hl 0 rfl) ?_
  refine lv_iload_n hx hb dX8_takeSign_179 rfl (lv_at hl 2 rfl) ?_
  refine lv_iconst (v := (4 : Int32)) hx hb dX8_takeSign_180 (by decide) ?_
  refine lv_icmp_ge (tgt := 188) hx hb dX8_takeSign_181 (by decide) (fun c20 => ?_) (fun c20 => ?_)
  · have hm := g_t c20 hm
    refine lv_iconst (v := (0 : Int32)) hx hb dX8_takeSign_188 (by decide) ?_
    exact tX8_takeSign_189 N hn X hr fin  x2 (0 : Int32) (mI (mI m 4 y1.toNatClampNeg (vp_nar .boolean y0)) 2 5 (1 : Int32)) H locs ls hI (lv_sub hl [0, 1] rfl) hm
  · have hm := g_f c20 hm
    refine lv_iconst (v := (1 : Int32)) hx hb dX8_takeSign_184 (by decide) ?_
    refine lv_goto (tgt := 189) hx hb dX8_takeSign_185 (by decide) ?_
    exact tX8_takeSign_189 N hn X hr fin  x2 (1 : Int32) (mI (mI m 4 y1.toNatClampNeg (vp_nar .boolean y0)) 2 5 (1 : Int32)) H locs ls hI (lv_sub hl [0, 1] rfl) hm
def fX8_takeSign_167 (N : Nat) (x2 : Int32) (x3 : Int32) (y0 : Int32) (m : Mem) : Option (Int32 × Mem) := fX8_takeSign_172 N x2 x3 (1 : Int32) y0 m
set_option maxHeartbeats 4000000 in
set_option maxRecDepth 100000 in
theorem tX8_takeSign_167 (N : Nat) {l : Launch} {D : va_G} {ca : Nat → ClassId} {ad : Nat → Nat} {p : Program} {e : Env} {s : State} {mm : MethodId} {args : Array Value} {below : List Frame} {meth : Method} {c : Code}  (hn : HNc ca) (X : CX p s mm args meth c cX8_takeSign 5 RX8 D ca ad (WA ca ad s.heap.size)) (hr : meth.sig.returnType = (some .boolean)) (fin : (Int32 × Mem))  : ∀ (x2 : Int32) (x3 : Int32) (y0 : Int32) (m : Mem) (H : Heap) (locs : List Loc) (ls : Array Slot), IW D ca ad (WA ca ad s.heap.size) s m H locs → lv_has ls 5 [(0, .ref (ad 2)), (2, .int x2), (3, .int x3)] → fX8_takeSign_167 N x2 x3 y0 m = some fin → W p l e rmX8_takeSign s mm args below meth c H locs 0 0 (MQ below (QI D ca ad s.heap.size fin.1 fin.2) args s 0 0 (WA ca ad s.heap.size)) (F0 mm 167 ls [.int y0, .ref (ad 4)]) := by
  have hx := X.1
  have hb := X.2.1
  intro x2 x3 y0 m H locs ls hI hl hm
  have hm : (fX8_takeSign_172 N x2 x3 (1 : Int32) y0 m) = some fin := hm
  refine lv_iconst (v := (1 : Int32)) hx hb dX8_takeSign_167 (by decide) ?_
  refine lv_goto (tgt := 172) hx hb dX8_takeSign_168 (by decide) ?_
  exact tX8_takeSign_172 N hn X hr fin  x2 x3 (1 : Int32) y0 m H locs ls hI (lv_sub hl [0, 1, 2] rfl) hm
def fX8_takeSign_171 (N : Nat) (x2 : Int32) (x3 : Int32) (y0 : Int32) (m : Mem) : Option (Int32 × Mem) := fX8_takeSign_172 N x2 x3 (0 : Int32) y0 m
set_option maxHeartbeats 4000000 in
set_option maxRecDepth 100000 in
theorem tX8_takeSign_171 (N : Nat) {l : Launch} {D : va_G} {ca : Nat → ClassId} {ad : Nat → Nat} {p : Program} {e : Env} {s : State} {mm : MethodId} {args : Array Value} {below : List Frame} {meth : Method} {c : Code}  (hn : HNc ca) (X : CX p s mm args meth c cX8_takeSign 5 RX8 D ca ad (WA ca ad s.heap.size)) (hr : meth.sig.returnType = (some .boolean)) (fin : (Int32 × Mem))  : ∀ (x2 : Int32) (x3 : Int32) (y0 : Int32) (m : Mem) (H : Heap) (locs : List Loc) (ls : Array Slot), IW D ca ad (WA ca ad s.heap.size) s m H locs → lv_has ls 5 [(0, .ref (ad 2)), (2, .int x2), (3, .int x3)] → fX8_takeSign_171 N x2 x3 y0 m = some fin → W p l e rmX8_takeSign s mm args below meth c H locs 0 0 (MQ below (QI D ca ad s.heap.size fin.1 fin.2) args s 0 0 (WA ca ad s.heap.size)) (F0 mm 171 ls [.int y0, .ref (ad 4)]) := by
  have hx := X.1
  have hb := X.2.1
  intro x2 x3 y0 m H locs ls hI hl hm
  have hm : (fX8_takeSign_172 N x2 x3 (0 : Int32) y0 m) = some fin := hm
  refine lv_iconst (v := (0 : Int32)) hx hb dX8_takeSign_171 (by decide) ?_
  exact tX8_takeSign_172 N hn X hr fin  x2 x3 (0 : Int32) y0 m H locs ls hI (lv_sub hl [0, 1, 2] rfl) hm
def fX8_takeSign_121 (N : Nat) (x1 : Nat) (x2 : Int32) (x3 : Int32) (x4 : Int32) (m : Mem) : Option (Int32 × Mem) := (fX8_countKnot x1 m).bind (fun q13 => if q13.1 = 0 then (some ((0 : Int32), q13.2)) else ((fX8_unload N x1 x3 q13.2).bind (fun q16 => if x4 = 0 then (if x3 ≤ (4 : Int32) then (fX8_takeSign_171 N x2 x3 (q16.1 2 4) q16) else (if (q16.1 2 4) < 0 ∨ 9 ≤ (q16.1 2 4).toNatClampNeg then none else (if (q16.1 4 (q16.1 2 4).toNatClampNeg) = 0 then (fX8_takeSign_171 N x2 x3 (q16.1 2 4) q16) else (fX8_takeSign_167 N x2 x3 (q16.1 2 4) q16)))) else (fX8_takeSign_167 N x2 x3 (q16.1 2 4) q16))))
set_option maxHeartbeats 4000000 in
set_option maxRecDepth 100000 in
theorem tX8_takeSign_121 (N : Nat) {l : Launch} {D : va_G} {ca : Nat → ClassId} {ad : Nat → Nat} {p : Program} {e : Env} {s : State} {mm : MethodId} {args : Array Value} {below : List Frame} {meth : Method} {c : Code}  (hn : HNc ca) (X : CX p s mm args meth c cX8_takeSign 5 RX8 D ca ad (WA ca ad s.heap.size)) (hr : meth.sig.returnType = (some .boolean)) (fin : (Int32 × Mem))  : ∀ (x1 : Nat) (x2 : Int32) (x3 : Int32) (x4 : Int32) (m : Mem) (H : Heap) (locs : List Loc) (ls : Array Slot), ly ca x1 = (0, 3) → IW D ca ad (WA ca ad s.heap.size) s m H locs → lv_has ls 5 [(0, .ref (ad 2)), (1, .ref (ad x1)), (2, .int x2), (3, .int x3), (4, .int x4)] → fX8_takeSign_121 N x1 x2 x3 x4 m = some fin → W p l e rmX8_takeSign s mm args below meth c H locs 0 0 (MQ below (QI D ca ad s.heap.size fin.1 fin.2) args s 0 0 (WA ca ad s.heap.size)) (F0 mm 121 ls []) := by
  have hx := X.1
  have hb := X.2.1
  intro x1 x2 x3 x4 m H locs ls hx1 hI hl hm
  have hm : ((fX8_countKnot x1 m).bind (fun q13 => if q13.1 = 0 then (some ((0 : Int32), q13.2)) else ((fX8_unload N x1 x3 q13.2).bind (fun q16 => if x4 = 0 then (if x3 ≤ (4 : Int32) then (fX8_takeSign_171 N x2 x3 (q16.1 2 4) q16) else (if (q16.1 2 4) < 0 ∨ 9 ≤ (q16.1 2 4).toNatClampNeg then none else (if (q16.1 4 (q16.1 2 4).toNatClampNeg) = 0 then (fX8_takeSign_171 N x2 x3 (q16.1 2 4) q16) else (fX8_takeSign_167 N x2 x3 (q16.1 2 4) q16)))) else (fX8_takeSign_167 N x2 x3 (q16.1 2 4) q16))))) = some fin := hm
  refine lv_aload_n hx hb dX8_takeSign_121 rfl (lv_at hl 0 rfl) ?_
  refine lv_aload_n hx hb dX8_takeSign_122 rfl (lv_at hl 1 rfl) ?_
  obtain ⟨q13, h14, hm⟩ := g_b hm
  refine backI X hI (runV X hI (ctX8_countKnot x1 hx1 hn _ _ h14 _) mdX8_203 (la_2 hn) rfl ⟨rfl, rfl⟩ ⟨Nat.le_of_ble_eq_true rfl, Nat.le_of_ble_eq_true rfl⟩ rfl hl.1 rfl (Nat.le_of_ble_eq_true rfl) dX8_takeSign_123) (fun H locs hI => ?_)
  refine lv_if_ne (tgt := 131) hx hb dX8_takeSign_126 (by decide) (fun c15 => ?_) (fun c15 => ?_)
  · have hm := g_f c15 hm
    refine lv_aload_n hx hb dX8_takeSign_131 rfl (lv_at hl 0 rfl) ?_
    refine lv_aload_n hx hb dX8_takeSign_132 rfl (lv_at hl 1 rfl) ?_
    refine lv_iload_n hx hb dX8_takeSign_133 rfl (lv_at hl 3 rfl) ?_
    obtain ⟨q16, h17, hm⟩ := g_b hm
    refine backV X hI (runV X hI (ctX8_unload N x1 x3 hx1 hn _ _ h17 _) mdX8_188 (la_2 hn) rfl ⟨rfl, rfl⟩ ⟨Nat.le_of_ble_eq_true rfl, Nat.le_of_ble_eq_true rfl⟩ rfl hl.1 rfl (Nat.le_of_ble_eq_true rfl) dX8_takeSign_134) (fun H locs hI => ?_)
    refine lv_aload_n hx hb dX8_takeSign_137 rfl (lv_at hl 0 rfl) ?_
    refine gR X hI fdX8_17 (la_2 hn) rf8_2 dX8_takeSign_138 ?_
    refine lv_aload_n hx hb dX8_takeSign_141 rfl (lv_at hl 0 rfl) ?_
    refine gI X hI fdX8_179 (la_2 hn) dX8_takeSign_142 ?_
    refine lv_iload hx hb dX8_takeSign_145 (lv_at hl 4 rfl) ?_
    refine lv_if_ne (tgt := 167) hx hb dX8_takeSign_147 (by decide) (fun c18 => ?_) (fun c18 => ?_)
    · have hm := g_f c18 hm
      exact tX8_takeSign_167 N hn X hr fin  x2 x3 (q16.1 2 4) q16 H locs ls hI (lv_sub hl [0, 2, 3] rfl) hm
    · have hm := g_t c18 hm
      refine lv_iload_n hx hb dX8_takeSign_150 rfl (lv_at hl 3 rfl) ?_
      refine lv_iconst (v := (4 : Int32)) hx hb dX8_takeSign_151 (by decide) ?_
      refine lv_icmp_le (tgt := 171) hx hb dX8_takeSign_152 (by decide) (fun c25 => ?_) (fun c25 => ?_)
      · have hm := g_t c25 hm
        exact tX8_takeSign_171 N hn X hr fin  x2 x3 (q16.1 2 4) q16 H locs ls hI (lv_sub hl [0, 2, 3] rfl) hm
      · have hm := g_f c25 hm
        refine lv_aload_n hx hb dX8_takeSign_155 rfl (lv_at hl 0 rfl) ?_
        refine gR X hI fdX8_17 (la_2 hn) rf8_2 dX8_takeSign_156 ?_
        refine lv_aload_n hx hb dX8_takeSign_159 rfl (lv_at hl 0 rfl) ?_
        refine gI X hI fdX8_179 (la_2 hn) dX8_takeSign_160 ?_
        obtain ⟨g26, hm⟩ := g_no hm
        refine aZ X hI (la_4 hn) g26 dX8_takeSign_163 ?_
        refine lv_if_eq (tgt := 171) hx hb dX8_takeSign_164 (by decide) (fun c27 => ?_) (fun c27 => ?_)
        · have hm := g_t c27 hm
          exact tX8_takeSign_171 N hn X hr fin  x2 x3 (q16.1 2 4) q16 H locs ls hI (lv_sub hl [0, 2, 3] rfl) hm
        · have hm := g_f c27 hm
          exact tX8_takeSign_167 N hn X hr fin  x2 x3 (q16.1 2 4) q16 H locs ls hI (lv_sub hl [0, 2, 3] rfl) hm
  · have hm := g_t c15 hm
    refine lv_iconst (v := (0 : Int32)) hx hb dX8_takeSign_129 (by decide) ?_
    exact rZ X hI hr (by decide) (g_p hm).1 (g_p hm).2 dX8_takeSign_130
def fX8_takeSign_64 (N : Nat) (x1 : Nat) (x2 : Int32) (x3 : Int32) (y0 : Int32) (m : Mem) : Option (Int32 × Mem) := if x3 = 0 then (fX8_takeSign_92 N m) else (if x2 = (13 : Int32) then (fX8_takeSign_92 N m) else (if (m.1 2 4) < 0 then (fX8_takeSign_92 N m) else (if (m.1 2 4) ≤ (8 : Int32) then (if y0 = 0 then (fX8_takeSign_121 N x1 x2 x3 y0 m) else (if (m.1 2 4) < 0 ∨ 9 ≤ (m.1 2 4).toNatClampNeg then none else (if (m.1 4 (m.1 2 4).toNatClampNeg) = 0 then (fX8_takeSign_121 N x1 x2 x3 y0 m) else ((fX8_fail (1 : Int32) m).bind (fun q30 => if q30.1 = 0 ∨ q30.1 = 1 then (some (q30.1, q30.2)) else none))))) else (fX8_takeSign_92 N m))))
set_option maxHeartbeats 4000000 in
set_option maxRecDepth 100000 in
theorem tX8_takeSign_64 (N : Nat) {l : Launch} {D : va_G} {ca : Nat → ClassId} {ad : Nat → Nat} {p : Program} {e : Env} {s : State} {mm : MethodId} {args : Array Value} {below : List Frame} {meth : Method} {c : Code}  (hn : HNc ca) (X : CX p s mm args meth c cX8_takeSign 5 RX8 D ca ad (WA ca ad s.heap.size)) (hr : meth.sig.returnType = (some .boolean)) (fin : (Int32 × Mem))  : ∀ (x1 : Nat) (x2 : Int32) (x3 : Int32) (y0 : Int32) (m : Mem) (H : Heap) (locs : List Loc) (ls : Array Slot), ly ca x1 = (0, 3) → IW D ca ad (WA ca ad s.heap.size) s m H locs → lv_has ls 5 [(0, .ref (ad 2)), (1, .ref (ad x1)), (2, .int x2), (3, .int x3)] → fX8_takeSign_64 N x1 x2 x3 y0 m = some fin → W p l e rmX8_takeSign s mm args below meth c H locs 0 0 (MQ below (QI D ca ad s.heap.size fin.1 fin.2) args s 0 0 (WA ca ad s.heap.size)) (F0 mm 64 ls [.int y0]) := by
  have hx := X.1
  have hb := X.2.1
  intro x1 x2 x3 y0 m H locs ls hx1 hI hl hm
  have hm : (if x3 = 0 then (fX8_takeSign_92 N m) else (if x2 = (13 : Int32) then (fX8_takeSign_92 N m) else (if (m.1 2 4) < 0 then (fX8_takeSign_92 N m) else (if (m.1 2 4) ≤ (8 : Int32) then (if y0 = 0 then (fX8_takeSign_121 N x1 x2 x3 y0 m) else (if (m.1 2 4) < 0 ∨ 9 ≤ (m.1 2 4).toNatClampNeg then none else (if (m.1 4 (m.1 2 4).toNatClampNeg) = 0 then (fX8_takeSign_121 N x1 x2 x3 y0 m) else ((fX8_fail (1 : Int32) m).bind (fun q30 => if q30.1 = 0 ∨ q30.1 = 1 then (some (q30.1, q30.2)) else none))))) else (fX8_takeSign_92 N m))))) = some fin := hm
  refine lv_istore (lv' := [(4, .int y0), (0, .ref (ad 2)), (1, .ref (ad x1)), (2, .int x2), (3, .int x3)]) hx hb dX8_takeSign_64 hl (by decide) rfl (fun ls hl => ?_)
  refine lv_iload_n hx hb dX8_takeSign_66 rfl (lv_at hl 4 rfl) ?_
  refine lv_if_eq (tgt := 92) hx hb dX8_takeSign_67 (by decide) (fun c5 => ?_) (fun c5 => ?_)
  · have hm := g_t c5 hm
    exact tX8_takeSign_92 N hn X hr fin  m H locs ls hI (lv_sub hl [1] rfl) hm
  · have hm := g_f c5 hm
    refine lv_iload_n hx hb dX8_takeSign_70 rfl (lv_at hl 3 rfl) ?_
    refine lv_bipush (v := (13 : Int32)) hx hb dX8_takeSign_71 (by decide) ?_
    refine lv_icmp_eq (tgt := 92) hx hb dX8_takeSign_73 (by decide) (fun c9 => ?_) (fun c9 => ?_)
    · have hm := g_t c9 hm
      exact tX8_takeSign_92 N hn X hr fin  m H locs ls hI (lv_sub hl [1] rfl) hm
    · have hm := g_f c9 hm
      refine lv_aload_n hx hb dX8_takeSign_76 rfl (lv_at hl 1 rfl) ?_
      refine gI X hI fdX8_179 (la_2 hn) dX8_takeSign_77 ?_
      refine lv_if_lt (tgt := 92) hx hb dX8_takeSign_80 (by decide) (fun c10 => ?_) (fun c10 => ?_)
      · have hm := g_t c10 hm
        exact tX8_takeSign_92 N hn X hr fin  m H locs ls hI (lv_sub hl [1] rfl) hm
      · have hm := g_f c10 hm
        refine lv_aload_n hx hb dX8_takeSign_83 rfl (lv_at hl 1 rfl) ?_
        refine gI X hI fdX8_179 (la_2 hn) dX8_takeSign_84 ?_
        refine lv_bipush (v := (8 : Int32)) hx hb dX8_takeSign_87 (by decide) ?_
        refine lv_icmp_le (tgt := 98) hx hb dX8_takeSign_89 (by decide) (fun c11 => ?_) (fun c11 => ?_)
        · have hm := g_t c11 hm
          refine lv_iload hx hb dX8_takeSign_98 (lv_at hl 0 rfl) ?_
          refine lv_if_eq (tgt := 121) hx hb dX8_takeSign_100 (by decide) (fun c12 => ?_) (fun c12 => ?_)
          · have hm := g_t c12 hm
            exact tX8_takeSign_121 N hn X hr fin  x1 x2 x3 y0 m H locs ls hx1 hI (lv_sub hl [1, 2, 3, 4, 0] rfl) hm
          · have hm := g_f c12 hm
            refine lv_aload_n hx hb dX8_takeSign_103 rfl (lv_at hl 1 rfl) ?_
            refine gR X hI fdX8_17 (la_2 hn) rf8_2 dX8_takeSign_104 ?_
            refine lv_aload_n hx hb dX8_takeSign_107 rfl (lv_at hl 1 rfl) ?_
            refine gI X hI fdX8_179 (la_2 hn) dX8_takeSign_108 ?_
            obtain ⟨g28, hm⟩ := g_no hm
            refine aZ X hI (la_4 hn) g28 dX8_takeSign_111 ?_
            refine lv_if_eq (tgt := 121) hx hb dX8_takeSign_112 (by decide) (fun c29 => ?_) (fun c29 => ?_)
            · have hm := g_t c29 hm
              exact tX8_takeSign_121 N hn X hr fin  x1 x2 x3 y0 m H locs ls hx1 hI (lv_sub hl [1, 2, 3, 4, 0] rfl) hm
            · have hm := g_f c29 hm
              refine lv_aload_n hx hb dX8_takeSign_115 rfl (lv_at hl 1 rfl) ?_
              refine lv_iconst (v := (1 : Int32)) hx hb dX8_takeSign_116 (by decide) ?_
              obtain ⟨q30, h31, hm⟩ := g_b hm
              refine backI X hI (runV X hI (ctX8_fail (1 : Int32)  hn _ _ h31 _) mdX8_106 (la_2 hn) rfl ⟨rfl, rfl⟩ ⟨Nat.le_of_ble_eq_true rfl, Nat.le_of_ble_eq_true rfl⟩ rfl hl.1 rfl (Nat.le_of_ble_eq_true rfl) dX8_takeSign_117) (fun H locs hI => ?_)
              obtain ⟨g32, hm⟩ := g_is hm
              exact rZ X hI hr g32 (g_p hm).1 (g_p hm).2 dX8_takeSign_120
        · have hm := g_f c11 hm
          exact tX8_takeSign_92 N hn X hr fin  m H locs ls hI (lv_sub hl [1] rfl) hm
def fX8_takeSign_49 (N : Nat) (x1 : Nat) (x2 : Int32) (m : Mem) : Option (Int32 × Mem) := (fX8_binding x2 m).bind (fun q2 => if q2 = (4 : Int32) then (fX8_takeSign_64 N x1 x2 q2 (1 : Int32) m) else (fX8_takeSign_64 N x1 x2 q2 (0 : Int32) m))
set_option maxHeartbeats 4000000 in
set_option maxRecDepth 100000 in
theorem tX8_takeSign_49 (N : Nat) {l : Launch} {D : va_G} {ca : Nat → ClassId} {ad : Nat → Nat} {p : Program} {e : Env} {s : State} {mm : MethodId} {args : Array Value} {below : List Frame} {meth : Method} {c : Code}  (hn : HNc ca) (X : CX p s mm args meth c cX8_takeSign 5 RX8 D ca ad (WA ca ad s.heap.size)) (hr : meth.sig.returnType = (some .boolean)) (fin : (Int32 × Mem))  : ∀ (x1 : Nat) (x2 : Int32) (m : Mem) (H : Heap) (locs : List Loc) (ls : Array Slot), ly ca x1 = (0, 3) → IW D ca ad (WA ca ad s.heap.size) s m H locs → lv_has ls 5 [(0, .ref (ad 2)), (1, .ref (ad x1)), (2, .int x2)] → fX8_takeSign_49 N x1 x2 m = some fin → W p l e rmX8_takeSign s mm args below meth c H locs 0 0 (MQ below (QI D ca ad s.heap.size fin.1 fin.2) args s 0 0 (WA ca ad s.heap.size)) (F0 mm 49 ls []) := by
  have hx := X.1
  have hb := X.2.1
  intro x1 x2 m H locs ls hx1 hI hl hm
  have hm : ((fX8_binding x2 m).bind (fun q2 => if q2 = (4 : Int32) then (fX8_takeSign_64 N x1 x2 q2 (1 : Int32) m) else (fX8_takeSign_64 N x1 x2 q2 (0 : Int32) m))) = some fin := hm
  refine lv_iload_n hx hb dX8_takeSign_49 rfl (lv_at hl 2 rfl) ?_
  obtain ⟨q2, h3, hm⟩ := g_b hm
  refine backI X hI (runS X hI (ctX8_binding x2  hn _ _ h3 _) msX8_212 ⟨rfl, rfl⟩ ⟨Nat.le_of_ble_eq_true rfl, Nat.le_of_ble_eq_true rfl⟩ rfl hl.1 rfl (Nat.le_of_ble_eq_true rfl) dX8_takeSign_50) (fun H locs hI => ?_)
  refine lv_istore_n (lv' := [(3, .int q2), (0, .ref (ad 2)), (1, .ref (ad x1)), (2, .int x2)]) hx hb dX8_takeSign_53 rfl hl (by decide) rfl (fun ls hl => ?_)
  refine lv_iload_n hx hb dX8_takeSign_54 rfl (lv_at hl 0 rfl) ?_
  refine lv_iconst (v := (4 : Int32)) hx hb dX8_takeSign_55 (by decide) ?_
  refine lv_icmp_ne (tgt := 63) hx hb dX8_takeSign_56 (by decide) (fun c4 => ?_) (fun c4 => ?_)
  · have hm := g_f c4 hm
    refine lv_iconst (v := (0 : Int32)) hx hb dX8_takeSign_63 (by decide) ?_
    exact tX8_takeSign_64 N hn X hr fin  x1 x2 q2 (0 : Int32) m H locs ls hx1 hI (lv_sub hl [1, 2, 3, 0] rfl) hm
  · have hm := g_t c4 hm
    refine lv_iconst (v := (1 : Int32)) hx hb dX8_takeSign_59 (by decide) ?_
    refine lv_goto (tgt := 64) hx hb dX8_takeSign_60 (by decide) ?_
    exact tX8_takeSign_64 N hn X hr fin  x1 x2 q2 (1 : Int32) m H locs ls hx1 hI (lv_sub hl [1, 2, 3, 0] rfl) hm
def fX8_takeSign (N : Nat) (x1 : Nat) (m : Mem) : Option (Int32 × Mem) := if (m.1 5 4) = (24 : Int32) then (if (m.1 2 4) ≤ 0 then (fX8_takeSign_49 N x1 (m.1 5 4) m) else ((fX8_unload N x1 (0 : Int32) m).bind (fun q34 => some ((1 : Int32), (mI (mI q34 2 3 ((q34.1 2 3) - (1 : Int32))) 2 4 (((mI q34 2 3 ((q34.1 2 3) - (1 : Int32))).1 2 4) - (1 : Int32))))))) else (fX8_takeSign_49 N x1 (m.1 5 4) m)
set_option maxHeartbeats 4000000 in
set_option maxRecDepth 100000 in
theorem ctX8_takeSign {l : Launch} {D : va_G} {ca : Nat → ClassId} {ad : Nat → Nat} (N : Nat) (x1 : Nat) (hx1 : ly ca x1 = (0, 3)) (hn : HNc ca) (m : Mem) (fin : (Int32 × Mem)) (hm : fX8_takeSign N x1 m = some fin) : CI l D ca ad yX8_takeSign cwX8_takeSign rmX8_takeSign [.ref (ad 2), .ref (ad x1)] m fin.1 fin.2 := by
  refine start (by decide) (Nat.le_of_ble_eq_true rfl) ?_
  intro p e s mm args below meth c H locs ls X hI hr hl
  have X : CX p s mm args meth c cX8_takeSign 5 RX8 D ca ad (WA ca ad s.heap.size) := X
  have hx := X.1
  have hb := X.2.1
  have hl : lv_has ls 5 [(0, .ref (ad 2)), (1, .ref (ad x1))] := hl
  have hm : (if (m.1 5 4) = (24 : Int32) then (if (m.1 2 4) ≤ 0 then (fX8_takeSign_49 N x1 (m.1 5 4) m) else ((fX8_unload N x1 (0 : Int32) m).bind (fun q34 => some ((1 : Int32), (mI (mI q34 2 3 ((q34.1 2 3) - (1 : Int32))) 2 4 (((mI q34 2 3 ((q34.1 2 3) - (1 : Int32))).1 2 4) - (1 : Int32))))))) else (fX8_takeSign_49 N x1 (m.1 5 4) m)) = some fin := hm
  refine lv_aload_n hx hb dX8_takeSign_0 rfl (lv_at hl 0 rfl) ?_
  refine gR X hI fdX8_30 (la_2 hn) rf8_0 dX8_takeSign_1 ?_
  refine gI X hI fdX8_46 (la_5 hn) dX8_takeSign_4 ?_
  refine lv_istore_n (lv' := [(2, .int (m.1 5 4)), (0, .ref (ad 2)), (1, .ref (ad x1))]) hx hb dX8_takeSign_7 rfl hl (by decide) rfl (fun ls hl => ?_)
  refine lv_iload_n hx hb dX8_takeSign_8 rfl (lv_at hl 0 rfl) ?_
  refine lv_bipush (v := (24 : Int32)) hx hb dX8_takeSign_9 (by decide) ?_
  refine lv_icmp_ne (tgt := 49) hx hb dX8_takeSign_11 (by decide) (fun c1 => ?_) (fun c1 => ?_)
  · have hm := g_f c1 hm
    exact tX8_takeSign_49 N hn X hr fin  x1 (m.1 5 4) m H locs ls hx1 hI (lv_sub hl [1, 2, 0] rfl) hm
  · have hm := g_t c1 hm
    refine lv_aload_n hx hb dX8_takeSign_14 rfl (lv_at hl 1 rfl) ?_
    refine gI X hI fdX8_179 (la_2 hn) dX8_takeSign_15 ?_
    refine lv_if_le (tgt := 49) hx hb dX8_takeSign_18 (by decide) (fun c33 => ?_) (fun c33 => ?_)
    · have hm := g_t c33 hm
      exact tX8_takeSign_49 N hn X hr fin  x1 (m.1 5 4) m H locs ls hx1 hI (lv_sub hl [1, 2, 0] rfl) hm
    · have hm := g_f c33 hm
      refine lv_aload_n hx hb dX8_takeSign_21 rfl (lv_at hl 1 rfl) ?_
      refine lv_aload_n hx hb dX8_takeSign_22 rfl (lv_at hl 2 rfl) ?_
      refine lv_iconst (v := (0 : Int32)) hx hb dX8_takeSign_23 (by decide) ?_
      obtain ⟨q34, h35, hm⟩ := g_b hm
      refine backV X hI (runV X hI (ctX8_unload N x1 (0 : Int32) hx1 hn _ _ h35 _) mdX8_188 (la_2 hn) rfl ⟨rfl, rfl⟩ ⟨Nat.le_of_ble_eq_true rfl, Nat.le_of_ble_eq_true rfl⟩ rfl hl.1 rfl (Nat.le_of_ble_eq_true rfl) dX8_takeSign_24) (fun H locs hI => ?_)
      refine lv_aload_n hx hb dX8_takeSign_27 rfl (lv_at hl 1 rfl) ?_
      refine lv_dup hx hb dX8_takeSign_28 rfl ?_
      refine gI X hI fdX8_176 (la_2 hn) dX8_takeSign_29 ?_
      refine lv_iconst (v := (1 : Int32)) hx hb dX8_takeSign_32 (by decide) ?_
      refine lv_isub hx hb dX8_takeSign_33 ?_
      refine pI X hI fpX8_176 (la_2 hn) dX8_takeSign_34 (fun H locs hI => ?_)
      refine lv_aload_n hx hb dX8_takeSign_37 rfl (lv_at hl 1 rfl) ?_
      refine lv_dup hx hb dX8_takeSign_38 rfl ?_
      refine gI X hI fdX8_179 (la_2 hn) dX8_takeSign_39 ?_
      refine lv_iconst (v := (1 : Int32)) hx hb dX8_takeSign_42 (by decide) ?_
      refine lv_isub hx hb dX8_takeSign_43 ?_
      refine pI X hI fpX8_179 (la_2 hn) dX8_takeSign_44 (fun H locs hI => ?_)
      refine lv_iconst (v := (1 : Int32)) hx hb dX8_takeSign_47 (by decide) ?_
      exact rZ X hI hr (by decide) (g_p hm).1 (g_p hm).2 dX8_takeSign_48
abbrev rmX8_readLaw : Room := { frames := 4, cells := 0, slots := 0, locals := 84 }
def fX8_readLaw_27 (N : Nat)  (m : Mem) : Option (Int32 × Mem) := (fX8_fail (1 : Int32) m).bind (fun q4 => if q4.1 = 0 ∨ q4.1 = 1 then (some (q4.1, q4.2)) else none)
set_option maxHeartbeats 4000000 in
set_option maxRecDepth 100000 in
theorem tX8_readLaw_27 (N : Nat) {l : Launch} {D : va_G} {ca : Nat → ClassId} {ad : Nat → Nat} {p : Program} {e : Env} {s : State} {mm : MethodId} {args : Array Value} {below : List Frame} {meth : Method} {c : Code}  (hn : HNc ca) (X : CX p s mm args meth c cX8_readLaw 5 RX8 D ca ad (WA ca ad s.heap.size)) (hr : meth.sig.returnType = (some .boolean)) (fin : (Int32 × Mem))  : ∀  (m : Mem) (H : Heap) (locs : List Loc) (ls : Array Slot), IW D ca ad (WA ca ad s.heap.size) s m H locs → lv_has ls 5 [(0, .ref (ad 2))] → fX8_readLaw_27 N m = some fin → W p l e rmX8_readLaw s mm args below meth c H locs 0 0 (MQ below (QI D ca ad s.heap.size fin.1 fin.2) args s 0 0 (WA ca ad s.heap.size)) (F0 mm 27 ls []) := by
  have hx := X.1
  have hb := X.2.1
  intro m H locs ls hI hl hm
  have hm : ((fX8_fail (1 : Int32) m).bind (fun q4 => if q4.1 = 0 ∨ q4.1 = 1 then (some (q4.1, q4.2)) else none)) = some fin := hm
  refine lv_aload_n hx hb dX8_readLaw_27 rfl (lv_at hl 0 rfl) ?_
  refine lv_iconst (v := (1 : Int32)) hx hb dX8_readLaw_28 (by decide) ?_
  obtain ⟨q4, h5, hm⟩ := g_b hm
  refine backI X hI (runV X hI (ctX8_fail (1 : Int32)  hn _ _ h5 _) mdX8_106 (la_2 hn) rfl ⟨rfl, rfl⟩ ⟨Nat.le_of_ble_eq_true rfl, Nat.le_of_ble_eq_true rfl⟩ rfl hl.1 rfl (Nat.le_of_ble_eq_true rfl) dX8_readLaw_29) (fun H locs hI => ?_)
  obtain ⟨g6, hm⟩ := g_is hm
  exact rZ X hI hr g6 (g_p hm).1 (g_p hm).2 dX8_readLaw_32
def fX8_readLaw_165 (N : Nat) (k89 : Nat → Int32 → Int32 → Int32 → Mem → Option (Int32 × Mem)) (x1 : Nat) (x2 : Int32) (x3 : Int32) (x4 : Int32) (m : Mem) : Option (Int32 × Mem) := (fX10_advance N m).bind (fun q22 => k89 x1 x2 x3 (x4 + (1 : Int32)) q22)
set_option maxHeartbeats 4000000 in
set_option maxRecDepth 100000 in
theorem tX8_readLaw_165 (N : Nat) {l : Launch} {D : va_G} {ca : Nat → ClassId} {ad : Nat → Nat} {p : Program} {e : Env} {s : State} {mm : MethodId} {args : Array Value} {below : List Frame} {meth : Method} {c : Code} {k89 : Nat → Int32 → Int32 → Int32 → Mem → Option (Int32 × Mem)} (hn : HNc ca) (X : CX p s mm args meth c cX8_readLaw 5 RX8 D ca ad (WA ca ad s.heap.size)) (hr : meth.sig.returnType = (some .boolean)) (fin : (Int32 × Mem)) (hk89 : ∀ (x1 : Nat) (x2 : Int32) (x3 : Int32) (x4 : Int32) (m : Mem) (H : Heap) (locs : List Loc) (ls : Array Slot), ly ca x1 = (0, 3) → IW D ca ad (WA ca ad s.heap.size) s m H locs → lv_has ls 5 [(0, .ref (ad 2)), (1, .ref (ad x1)), (2, .int x2), (3, .int x3), (4, .int x4)] → k89 x1 x2 x3 x4 m = some fin → W p l e rmX8_readLaw s mm args below meth c H locs 0 0 (MQ below (QI D ca ad s.heap.size fin.1 fin.2) args s 0 0 (WA ca ad s.heap.size)) (F0 mm 89 ls [])) : ∀ (x1 : Nat) (x2 : Int32) (x3 : Int32) (x4 : Int32) (m : Mem) (H : Heap) (locs : List Loc) (ls : Array Slot), ly ca x1 = (0, 3) → IW D ca ad (WA ca ad s.heap.size) s m H locs → lv_has ls 5 [(0, .ref (ad 2)), (1, .ref (ad x1)), (2, .int x2), (3, .int x3), (4, .int x4)] → fX8_readLaw_165 N k89 x1 x2 x3 x4 m = some fin → W p l e rmX8_readLaw s mm args below meth c H locs 0 0 (MQ below (QI D ca ad s.heap.size fin.1 fin.2) args s 0 0 (WA ca ad s.heap.size)) (F0 mm 165 ls []) := by
  have hx := X.1
  have hb := X.2.1
  intro x1 x2 x3 x4 m H locs ls hx1 hI hl hm
  have hm : ((fX10_advance N m).bind (fun q22 => k89 x1 x2 x3 (x4 + (1 : Int32)) q22)) = some fin := hm
  refine lv_aload_n hx hb dX8_readLaw_165 rfl (lv_at hl 0 rfl) ?_
  refine gR X hI fdX8_30 (la_2 hn) rf8_0 dX8_readLaw_166 ?_
  obtain ⟨q22, h23, hm⟩ := g_b hm
  refine backV X hI (runV X hI (ctX10_advance N  hn _ _ h23 _) mdX8_110 (la_5 hn) rfl ⟨rfl, rfl⟩ ⟨Nat.le_of_ble_eq_true rfl, Nat.le_of_ble_eq_true rfl⟩ rfl hl.1 rfl (Nat.le_of_ble_eq_true rfl) dX8_readLaw_169) (fun H locs hI => ?_)
  refine lv_iinc (v := (x4 + (1 : Int32))) (lv' := [(4, .int (x4 + (1 : Int32))), (0, .ref (ad 2)), (1, .ref (ad x1)), (2, .int x2), (3, .int x3)]) hx hb dX8_readLaw_172 hl (k := 4) rfl rfl (by decide) rfl (fun ls hl => ?_)
  refine lv_goto (tgt := 89) hx hb dX8_readLaw_175 (by decide) ?_
  exact hk89 x1 x2 x3 (x4 + (1 : Int32)) q22 H locs ls hx1 hI (lv_sub hl [1, 2, 3, 4, 0] rfl) hm
def fX8_readLaw_137 (N : Nat) (k89 : Nat → Int32 → Int32 → Int32 → Mem → Option (Int32 × Mem)) (x1 : Nat) (x2 : Int32) (x3 : Int32) (x4 : Int32) (m : Mem) : Option (Int32 × Mem) := if (m.1 2 5) = 0 then ((fX8_takeSign N x1 m).bind (fun q19 => if q19.1 = 0 then (some ((0 : Int32), q19.2)) else (fX8_readLaw_165 N k89 x1 x2 x3 x4 q19.2))) else ((fX8_takeOperand x1 m).bind (fun q24 => if q24.1 = 0 then (some ((0 : Int32), q24.2)) else (fX8_readLaw_165 N k89 x1 x2 x3 x4 q24.2)))
set_option maxHeartbeats 4000000 in
set_option maxRecDepth 100000 in
theorem tX8_readLaw_137 (N : Nat) {l : Launch} {D : va_G} {ca : Nat → ClassId} {ad : Nat → Nat} {p : Program} {e : Env} {s : State} {mm : MethodId} {args : Array Value} {below : List Frame} {meth : Method} {c : Code} {k89 : Nat → Int32 → Int32 → Int32 → Mem → Option (Int32 × Mem)} (hn : HNc ca) (X : CX p s mm args meth c cX8_readLaw 5 RX8 D ca ad (WA ca ad s.heap.size)) (hr : meth.sig.returnType = (some .boolean)) (fin : (Int32 × Mem)) (hk89 : ∀ (x1 : Nat) (x2 : Int32) (x3 : Int32) (x4 : Int32) (m : Mem) (H : Heap) (locs : List Loc) (ls : Array Slot), ly ca x1 = (0, 3) → IW D ca ad (WA ca ad s.heap.size) s m H locs → lv_has ls 5 [(0, .ref (ad 2)), (1, .ref (ad x1)), (2, .int x2), (3, .int x3), (4, .int x4)] → k89 x1 x2 x3 x4 m = some fin → W p l e rmX8_readLaw s mm args below meth c H locs 0 0 (MQ below (QI D ca ad s.heap.size fin.1 fin.2) args s 0 0 (WA ca ad s.heap.size)) (F0 mm 89 ls [])) : ∀ (x1 : Nat) (x2 : Int32) (x3 : Int32) (x4 : Int32) (m : Mem) (H : Heap) (locs : List Loc) (ls : Array Slot), ly ca x1 = (0, 3) → IW D ca ad (WA ca ad s.heap.size) s m H locs → lv_has ls 5 [(0, .ref (ad 2)), (1, .ref (ad x1)), (2, .int x2), (3, .int x3), (4, .int x4)] → fX8_readLaw_137 N k89 x1 x2 x3 x4 m = some fin → W p l e rmX8_readLaw s mm args below meth c H locs 0 0 (MQ below (QI D ca ad s.heap.size fin.1 fin.2) args s 0 0 (WA ca ad s.heap.size)) (F0 mm 137 ls []) := by
  have hx := X.1
  have hb := X.2.1
  intro x1 x2 x3 x4 m H locs ls hx1 hI hl hm
  have hm : (if (m.1 2 5) = 0 then ((fX8_takeSign N x1 m).bind (fun q19 => if q19.1 = 0 then (some ((0 : Int32), q19.2)) else (fX8_readLaw_165 N k89 x1 x2 x3 x4 q19.2))) else ((fX8_takeOperand x1 m).bind (fun q24 => if q24.1 = 0 then (some ((0 : Int32), q24.2)) else (fX8_readLaw_165 N k89 x1 x2 x3 x4 q24.2)))) = some fin := hm
  refine lv_aload_n hx hb dX8_readLaw_137 rfl (lv_at hl 0 rfl) ?_
  refine gI X hI fdX8_182 (la_2 hn) dX8_readLaw_138 ?_
  refine lv_if_eq (tgt := 155) hx hb dX8_readLaw_141 (by decide) (fun c18 => ?_) (fun c18 => ?_)
  · have hm := g_t c18 hm
    refine lv_aload_n hx hb dX8_readLaw_155 rfl (lv_at hl 0 rfl) ?_
    refine lv_aload_n hx hb dX8_readLaw_156 rfl (lv_at hl 1 rfl) ?_
    obtain ⟨q19, h20, hm⟩ := g_b hm
    refine backI X hI (runV X hI (ctX8_takeSign N x1 hx1 hn _ _ h20 _) mdX8_197 (la_2 hn) rfl ⟨rfl, rfl⟩ ⟨Nat.le_of_ble_eq_true rfl, Nat.le_of_ble_eq_true rfl⟩ rfl hl.1 rfl (Nat.le_of_ble_eq_true rfl) dX8_readLaw_157) (fun H locs hI => ?_)
    refine lv_if_ne (tgt := 165) hx hb dX8_readLaw_160 (by decide) (fun c21 => ?_) (fun c21 => ?_)
    · have hm := g_f c21 hm
      exact tX8_readLaw_165 N hn X hr fin hk89 x1 x2 x3 x4 q19.2 H locs ls hx1 hI (lv_sub hl [0, 1, 2, 3, 4] rfl) hm
    · have hm := g_t c21 hm
      refine lv_iconst (v := (0 : Int32)) hx hb dX8_readLaw_163 (by decide) ?_
      exact rZ X hI hr (by decide) (g_p hm).1 (g_p hm).2 dX8_readLaw_164
  · have hm := g_f c18 hm
    refine lv_aload_n hx hb dX8_readLaw_144 rfl (lv_at hl 0 rfl) ?_
    refine lv_aload_n hx hb dX8_readLaw_145 rfl (lv_at hl 1 rfl) ?_
    obtain ⟨q24, h25, hm⟩ := g_b hm
    refine backI X hI (runV X hI (ctX8_takeOperand x1 hx1 hn _ _ h25 _) mdX8_194 (la_2 hn) rfl ⟨rfl, rfl⟩ ⟨Nat.le_of_ble_eq_true rfl, Nat.le_of_ble_eq_true rfl⟩ rfl hl.1 rfl (Nat.le_of_ble_eq_true rfl) dX8_readLaw_146) (fun H locs hI => ?_)
    refine lv_if_ne (tgt := 165) hx hb dX8_readLaw_149 (by decide) (fun c26 => ?_) (fun c26 => ?_)
    · have hm := g_f c26 hm
      exact tX8_readLaw_165 N hn X hr fin hk89 x1 x2 x3 x4 q24.2 H locs ls hx1 hI (lv_sub hl [0, 1, 2, 3, 4] rfl) hm
    · have hm := g_t c26 hm
      refine lv_goto (tgt := 163) hx hb dX8_readLaw_152 (by decide) ?_
      refine lv_iconst (v := (0 : Int32)) hx hb dX8_readLaw_163 (by decide) ?_
      exact rZ X hI hr (by decide) (g_p hm).1 (g_p hm).2 dX8_readLaw_164
def fX8_readLaw_89 (N : Nat) : Nat → Nat → Int32 → Int32 → Int32 → Mem → Option (Int32 × Mem)
  | 0, _, _, _, _, _ => none
  | n + 1, x1, x2, x3, x4, m => if (700 : Int32) ≤ x4 then ((fX8_fail (1 : Int32) m).bind (fun q14 => if q14.1 = 0 ∨ q14.1 = 1 then (some (q14.1, q14.2)) else none)) else (if (m.1 2 5) = 0 then (if (m.1 2 4) = 0 then (if (m.1 5 4) = (22 : Int32) then ((fX8_unload N x1 (0 : Int32) m).bind (fun q29 => (fX3_close x1 x2 x3 q29).bind (fun q31 => some ((1 : Int32), q31)))) else (fX8_readLaw_137 N (fun x1 x2 x3 x4 m => fX8_readLaw_89 N n x1 x2 x3 x4 m) x1 x2 x3 x4 m)) else (fX8_readLaw_137 N (fun x1 x2 x3 x4 m => fX8_readLaw_89 N n x1 x2 x3 x4 m) x1 x2 x3 x4 m)) else (fX8_readLaw_137 N (fun x1 x2 x3 x4 m => fX8_readLaw_89 N n x1 x2 x3 x4 m) x1 x2 x3 x4 m))
set_option maxHeartbeats 4000000 in
set_option maxRecDepth 100000 in
theorem tX8_readLaw_89 (N : Nat) {l : Launch} {D : va_G} {ca : Nat → ClassId} {ad : Nat → Nat} {p : Program} {e : Env} {s : State} {mm : MethodId} {args : Array Value} {below : List Frame} {meth : Method} {c : Code}  (hn : HNc ca) (X : CX p s mm args meth c cX8_readLaw 5 RX8 D ca ad (WA ca ad s.heap.size)) (hr : meth.sig.returnType = (some .boolean)) (fin : (Int32 × Mem))  : ∀ (n : Nat) (x1 : Nat) (x2 : Int32) (x3 : Int32) (x4 : Int32) (m : Mem) (H : Heap) (locs : List Loc) (ls : Array Slot), ly ca x1 = (0, 3) → IW D ca ad (WA ca ad s.heap.size) s m H locs → lv_has ls 5 [(0, .ref (ad 2)), (1, .ref (ad x1)), (2, .int x2), (3, .int x3), (4, .int x4)] → fX8_readLaw_89 N n x1 x2 x3 x4 m = some fin → W p l e rmX8_readLaw s mm args below meth c H locs 0 0 (MQ below (QI D ca ad s.heap.size fin.1 fin.2) args s 0 0 (WA ca ad s.heap.size)) (F0 mm 89 ls []) := by
  have hx := X.1
  have hb := X.2.1
  intro n
  induction n with
  | zero => intro x1 x2 x3 x4 m H locs ls hx1 hI hl hm
            exact absurd hm (by intro q; cases q)
  | succ n ih =>
    intro x1 x2 x3 x4 m H locs ls hx1 hI hl hm
    have hm : (if (700 : Int32) ≤ x4 then ((fX8_fail (1 : Int32) m).bind (fun q14 => if q14.1 = 0 ∨ q14.1 = 1 then (some (q14.1, q14.2)) else none)) else (if (m.1 2 5) = 0 then (if (m.1 2 4) = 0 then (if (m.1 5 4) = (22 : Int32) then ((fX8_unload N x1 (0 : Int32) m).bind (fun q29 => (fX3_close x1 x2 x3 q29).bind (fun q31 => some ((1 : Int32), q31)))) else (fX8_readLaw_137 N (fun x1 x2 x3 x4 m => fX8_readLaw_89 N n x1 x2 x3 x4 m) x1 x2 x3 x4 m)) else (fX8_readLaw_137 N (fun x1 x2 x3 x4 m => fX8_readLaw_89 N n x1 x2 x3 x4 m) x1 x2 x3 x4 m)) else (fX8_readLaw_137 N (fun x1 x2 x3 x4 m => fX8_readLaw_89 N n x1 x2 x3 x4 m) x1 x2 x3 x4 m))) = some fin := hm
    refine lv_iload hx hb dX8_readLaw_89 (lv_at hl 4 rfl) ?_
    refine lv_sipush (v := (700 : Int32)) hx hb dX8_readLaw_91 (by decide) ?_
    refine lv_icmp_ge (tgt := 178) hx hb dX8_readLaw_94 (by decide) (fun c13 => ?_) (fun c13 => ?_)
    · have hm := g_t c13 hm
      refine lv_aload_n hx hb dX8_readLaw_178 rfl (lv_at hl 0 rfl) ?_
      refine lv_iconst (v := (1 : Int32)) hx hb dX8_readLaw_179 (by decide) ?_
      obtain ⟨q14, h15, hm⟩ := g_b hm
      refine backI X hI (runV X hI (ctX8_fail (1 : Int32)  hn _ _ h15 _) mdX8_106 (la_2 hn) rfl ⟨rfl, rfl⟩ ⟨Nat.le_of_ble_eq_true rfl, Nat.le_of_ble_eq_true rfl⟩ rfl hl.1 rfl (Nat.le_of_ble_eq_true rfl) dX8_readLaw_180) (fun H locs hI => ?_)
      obtain ⟨g16, hm⟩ := g_is hm
      exact rZ X hI hr g16 (g_p hm).1 (g_p hm).2 dX8_readLaw_183
    · have hm := g_f c13 hm
      refine lv_aload_n hx hb dX8_readLaw_97 rfl (lv_at hl 0 rfl) ?_
      refine gI X hI fdX8_182 (la_2 hn) dX8_readLaw_98 ?_
      refine lv_if_ne (tgt := 137) hx hb dX8_readLaw_101 (by decide) (fun c17 => ?_) (fun c17 => ?_)
      · have hm := g_f c17 hm
        exact tX8_readLaw_137 N hn X hr fin ih x1 x2 x3 x4 m H locs ls hx1 hI (lv_sub hl [0, 1, 2, 3, 4] rfl) hm
      · have hm := g_t c17 hm
        refine lv_aload_n hx hb dX8_readLaw_104 rfl (lv_at hl 0 rfl) ?_
        refine gI X hI fdX8_179 (la_2 hn) dX8_readLaw_105 ?_
        refine lv_if_ne (tgt := 137) hx hb dX8_readLaw_108 (by decide) (fun c27 => ?_) (fun c27 => ?_)
        · have hm := g_f c27 hm
          exact tX8_readLaw_137 N hn X hr fin ih x1 x2 x3 x4 m H locs ls hx1 hI (lv_sub hl [0, 1, 2, 3, 4] rfl) hm
        · have hm := g_t c27 hm
          refine lv_aload_n hx hb dX8_readLaw_111 rfl (lv_at hl 0 rfl) ?_
          refine gR X hI fdX8_30 (la_2 hn) rf8_0 dX8_readLaw_112 ?_
          refine gI X hI fdX8_46 (la_5 hn) dX8_readLaw_115 ?_
          refine lv_bipush (v := (22 : Int32)) hx hb dX8_readLaw_118 (by decide) ?_
          refine lv_icmp_ne (tgt := 137) hx hb dX8_readLaw_120 (by decide) (fun c28 => ?_) (fun c28 => ?_)
          · have hm := g_f c28 hm
            exact tX8_readLaw_137 N hn X hr fin ih x1 x2 x3 x4 m H locs ls hx1 hI (lv_sub hl [0, 1, 2, 3, 4] rfl) hm
          · have hm := g_t c28 hm
            refine lv_aload_n hx hb dX8_readLaw_123 rfl (lv_at hl 0 rfl) ?_
            refine lv_aload_n hx hb dX8_readLaw_124 rfl (lv_at hl 1 rfl) ?_
            refine lv_iconst (v := (0 : Int32)) hx hb dX8_readLaw_125 (by decide) ?_
            obtain ⟨q29, h30, hm⟩ := g_b hm
            refine backV X hI (runV X hI (ctX8_unload N x1 (0 : Int32) hx1 hn _ _ h30 _) mdX8_188 (la_2 hn) rfl ⟨rfl, rfl⟩ ⟨Nat.le_of_ble_eq_true rfl, Nat.le_of_ble_eq_true rfl⟩ rfl hl.1 rfl (Nat.le_of_ble_eq_true rfl) dX8_readLaw_126) (fun H locs hI => ?_)
            refine lv_aload_n hx hb dX8_readLaw_129 rfl (lv_at hl 1 rfl) ?_
            refine lv_iload_n hx hb dX8_readLaw_130 rfl (lv_at hl 2 rfl) ?_
            refine lv_iload_n hx hb dX8_readLaw_131 rfl (lv_at hl 3 rfl) ?_
            obtain ⟨q31, h32, hm⟩ := g_b hm
            refine backV X hI (runV X hI (ctX3_close x1 x2 x3 hx1 hn _ _ h32 _) mdX8_192 hx1 rfl ⟨rfl, rfl⟩ ⟨Nat.le_of_ble_eq_true rfl, Nat.le_of_ble_eq_true rfl⟩ rfl hl.1 rfl (Nat.le_of_ble_eq_true rfl) dX8_readLaw_132) (fun H locs hI => ?_)
            refine lv_iconst (v := (1 : Int32)) hx hb dX8_readLaw_135 (by decide) ?_
            exact rZ X hI hr (by decide) (g_p hm).1 (g_p hm).2 dX8_readLaw_136
def fX8_readLaw (N : Nat) (x1 : Nat) (m : Mem) : Option (Int32 × Mem) := (fX10_advance N m).bind (fun q1 => if ((q1.1 5 4) - (8 : Int32)) < 0 then (fX8_readLaw_27 N q1) else (if ((q1.1 5 4) - (8 : Int32)) ≤ (2 : Int32) then ((fX3_isTold x1 ((q1.1 5 4) - (8 : Int32)) q1).bind (fun q8 => if q8 = 0 then ((fX10_advance N (mI (mI (mI (mI (mI q1 2 3 (0 : Int32)) 2 4 (0 : Int32)) 4 0 (vp_nar .boolean (0 : Int32))) 2 5 (1 : Int32)) 2 6 (1 : Int32))).bind (fun q11 => fX8_readLaw_89 N N x1 ((q1.1 5 4) - (8 : Int32)) (q1.1 x1 7) (0 : Int32) q11)) else ((fX8_fail (3 : Int32) q1).bind (fun q33 => if q33.1 = 0 ∨ q33.1 = 1 then (some (q33.1, q33.2)) else none)))) else (fX8_readLaw_27 N q1)))
set_option maxHeartbeats 4000000 in
set_option maxRecDepth 100000 in
theorem ctX8_readLaw {l : Launch} {D : va_G} {ca : Nat → ClassId} {ad : Nat → Nat} (N : Nat) (x1 : Nat) (hx1 : ly ca x1 = (0, 3)) (hn : HNc ca) (m : Mem) (fin : (Int32 × Mem)) (hm : fX8_readLaw N x1 m = some fin) : CI l D ca ad yX8_readLaw cwX8_readLaw rmX8_readLaw [.ref (ad 2), .ref (ad x1)] m fin.1 fin.2 := by
  refine start (by decide) (Nat.le_of_ble_eq_true rfl) ?_
  intro p e s mm args below meth c H locs ls X hI hr hl
  have X : CX p s mm args meth c cX8_readLaw 5 RX8 D ca ad (WA ca ad s.heap.size) := X
  have hx := X.1
  have hb := X.2.1
  have hl : lv_has ls 5 [(0, .ref (ad 2)), (1, .ref (ad x1))] := hl
  have hm : ((fX10_advance N m).bind (fun q1 => if ((q1.1 5 4) - (8 : Int32)) < 0 then (fX8_readLaw_27 N q1) else (if ((q1.1 5 4) - (8 : Int32)) ≤ (2 : Int32) then ((fX3_isTold x1 ((q1.1 5 4) - (8 : Int32)) q1).bind (fun q8 => if q8 = 0 then ((fX10_advance N (mI (mI (mI (mI (mI q1 2 3 (0 : Int32)) 2 4 (0 : Int32)) 4 0 (vp_nar .boolean (0 : Int32))) 2 5 (1 : Int32)) 2 6 (1 : Int32))).bind (fun q11 => fX8_readLaw_89 N N x1 ((q1.1 5 4) - (8 : Int32)) (q1.1 x1 7) (0 : Int32) q11)) else ((fX8_fail (3 : Int32) q1).bind (fun q33 => if q33.1 = 0 ∨ q33.1 = 1 then (some (q33.1, q33.2)) else none)))) else (fX8_readLaw_27 N q1)))) = some fin := hm
  refine lv_aload_n hx hb dX8_readLaw_0 rfl (lv_at hl 0 rfl) ?_
  refine gR X hI fdX8_30 (la_2 hn) rf8_0 dX8_readLaw_1 ?_
  obtain ⟨q1, h2, hm⟩ := g_b hm
  refine backV X hI (runV X hI (ctX10_advance N  hn _ _ h2 _) mdX8_110 (la_5 hn) rfl ⟨rfl, rfl⟩ ⟨Nat.le_of_ble_eq_true rfl, Nat.le_of_ble_eq_true rfl⟩ rfl hl.1 rfl (Nat.le_of_ble_eq_true rfl) dX8_readLaw_4) (fun H locs hI => ?_)
  refine lv_aload_n hx hb dX8_readLaw_7 rfl (lv_at hl 0 rfl) ?_
  refine gR X hI fdX8_30 (la_2 hn) rf8_0 dX8_readLaw_8 ?_
  refine gI X hI fdX8_46 (la_5 hn) dX8_readLaw_11 ?_
  refine lv_bipush (v := (8 : Int32)) hx hb dX8_readLaw_14 (by decide) ?_
  refine lv_isub hx hb dX8_readLaw_16 ?_
  refine lv_istore_n (lv' := [(2, .int ((q1.1 5 4) - (8 : Int32))), (0, .ref (ad 2)), (1, .ref (ad x1))]) hx hb dX8_readLaw_17 rfl hl (by decide) rfl (fun ls hl => ?_)
  refine lv_iload_n hx hb dX8_readLaw_18 rfl (lv_at hl 0 rfl) ?_
  refine lv_if_lt (tgt := 27) hx hb dX8_readLaw_19 (by decide) (fun c3 => ?_) (fun c3 => ?_)
  · have hm := g_t c3 hm
    exact tX8_readLaw_27 N hn X hr fin  q1 H locs ls hI (lv_sub hl [1] rfl) hm
  · have hm := g_f c3 hm
    refine lv_iload_n hx hb dX8_readLaw_22 rfl (lv_at hl 0 rfl) ?_
    refine lv_iconst (v := (2 : Int32)) hx hb dX8_readLaw_23 (by decide) ?_
    refine lv_icmp_le (tgt := 33) hx hb dX8_readLaw_24 (by decide) (fun c7 => ?_) (fun c7 => ?_)
    · have hm := g_t c7 hm
      refine lv_aload_n hx hb dX8_readLaw_33 rfl (lv_at hl 2 rfl) ?_
      refine lv_iload_n hx hb dX8_readLaw_34 rfl (lv_at hl 0 rfl) ?_
      obtain ⟨q8, h9, hm⟩ := g_b hm
      refine backI X hI (runV X hI (ctX3_isTold x1 ((q1.1 5 4) - (8 : Int32)) hx1 hn _ _ h9 _) mdX8_172 hx1 rfl ⟨rfl, rfl⟩ ⟨Nat.le_of_ble_eq_true rfl, Nat.le_of_ble_eq_true rfl⟩ rfl hl.1 rfl (Nat.le_of_ble_eq_true rfl) dX8_readLaw_35) (fun H locs hI => ?_)
      refine lv_if_eq (tgt := 47) hx hb dX8_readLaw_38 (by decide) (fun c10 => ?_) (fun c10 => ?_)
      · have hm := g_t c10 hm
        refine lv_aload_n hx hb dX8_readLaw_47 rfl (lv_at hl 2 rfl) ?_
        refine gI X hI fdX8_175 hx1 dX8_readLaw_48 ?_
        refine lv_istore_n (lv' := [(3, .int (q1.1 x1 7)), (2, .int ((q1.1 5 4) - (8 : Int32))), (0, .ref (ad 2)), (1, .ref (ad x1))]) hx hb dX8_readLaw_51 rfl hl (by decide) rfl (fun ls hl => ?_)
        refine lv_aload_n hx hb dX8_readLaw_52 rfl (lv_at hl 2 rfl) ?_
        refine lv_iconst (v := (0 : Int32)) hx hb dX8_readLaw_53 (by decide) ?_
        refine pI X hI fpX8_176 (la_2 hn) dX8_readLaw_54 (fun H locs hI => ?_)
        refine lv_aload_n hx hb dX8_readLaw_57 rfl (lv_at hl 2 rfl) ?_
        refine lv_iconst (v := (0 : Int32)) hx hb dX8_readLaw_58 (by decide) ?_
        refine pI X hI fpX8_179 (la_2 hn) dX8_readLaw_59 (fun H locs hI => ?_)
        refine lv_aload_n hx hb dX8_readLaw_62 rfl (lv_at hl 2 rfl) ?_
        refine gR X hI fdX8_17 (la_2 hn) rf8_2 dX8_readLaw_63 ?_
        refine lv_iconst (v := (0 : Int32)) hx hb dX8_readLaw_66 (by decide) ?_
        refine lv_iconst (v := (0 : Int32)) hx hb dX8_readLaw_67 (by decide) ?_
        refine sZc (j := 0) X hI (la_4 hn) (by decide) (by decide) dX8_readLaw_68 (fun H locs hI => ?_)
        refine lv_aload_n hx hb dX8_readLaw_69 rfl (lv_at hl 2 rfl) ?_
        refine lv_iconst (v := (1 : Int32)) hx hb dX8_readLaw_70 (by decide) ?_
        refine pZ X hI fpX8_182 (la_2 hn) (by decide) dX8_readLaw_71 (fun H locs hI => ?_)
        refine lv_aload_n hx hb dX8_readLaw_74 rfl (lv_at hl 2 rfl) ?_
        refine lv_iconst (v := (1 : Int32)) hx hb dX8_readLaw_75 (by decide) ?_
        refine pZ X hI fpX8_185 (la_2 hn) (by decide) dX8_readLaw_76 (fun H locs hI => ?_)
        refine lv_aload_n hx hb dX8_readLaw_79 rfl (lv_at hl 2 rfl) ?_
        refine gR X hI fdX8_30 (la_2 hn) rf8_0 dX8_readLaw_80 ?_
        obtain ⟨q11, h12, hm⟩ := g_b hm
        refine backV X hI (runV X hI (ctX10_advance N  hn _ _ h12 _) mdX8_110 (la_5 hn) rfl ⟨rfl, rfl⟩ ⟨Nat.le_of_ble_eq_true rfl, Nat.le_of_ble_eq_true rfl⟩ rfl hl.1 rfl (Nat.le_of_ble_eq_true rfl) dX8_readLaw_83) (fun H locs hI => ?_)
        refine lv_iconst (v := (0 : Int32)) hx hb dX8_readLaw_86 (by decide) ?_
        refine lv_istore (lv' := [(4, .int (0 : Int32)), (3, .int (q1.1 x1 7)), (2, .int ((q1.1 5 4) - (8 : Int32))), (0, .ref (ad 2)), (1, .ref (ad x1))]) hx hb dX8_readLaw_87 hl (by decide) rfl (fun ls hl => ?_)
        exact tX8_readLaw_89 N hn X hr fin  N x1 ((q1.1 5 4) - (8 : Int32)) (q1.1 x1 7) (0 : Int32) q11 H locs ls hx1 hI (lv_sub hl [3, 4, 2, 1, 0] rfl) hm
      · have hm := g_f c10 hm
        refine lv_aload_n hx hb dX8_readLaw_41 rfl (lv_at hl 1 rfl) ?_
        refine lv_iconst (v := (3 : Int32)) hx hb dX8_readLaw_42 (by decide) ?_
        obtain ⟨q33, h34, hm⟩ := g_b hm
        refine backI X hI (runV X hI (ctX8_fail (3 : Int32)  hn _ _ h34 _) mdX8_106 (la_2 hn) rfl ⟨rfl, rfl⟩ ⟨Nat.le_of_ble_eq_true rfl, Nat.le_of_ble_eq_true rfl⟩ rfl hl.1 rfl (Nat.le_of_ble_eq_true rfl) dX8_readLaw_43) (fun H locs hI => ?_)
        obtain ⟨g35, hm⟩ := g_is hm
        exact rZ X hI hr g35 (g_p hm).1 (g_p hm).2 dX8_readLaw_46
    · have hm := g_f c7 hm
      exact tX8_readLaw_27 N hn X hr fin  q1 H locs ls hI (lv_sub hl [1] rfl) hm
