abbrev rmX12_tubAhead : Room := { frames := 7, cells := 0, slots := 0, locals := 154 }
def fX12_tubAhead (N : Nat)  (m : Mem) : Option (Int32 × Mem) := (fX12_fresher (1 : Int32) m).bind (fun q1 => (fX12_atHand N 105 (6 : Int32) q1 m).bind (fun q3 => (fX12_goOn N q3.2).bind (fun q5 => some (q3.1, q5))))
set_option maxHeartbeats 4000000 in
set_option maxRecDepth 100000 in
theorem ctX12_tubAhead {l : Launch} {D : va_G} {ca : Nat → ClassId} {ad : Nat → Nat} (N : Nat)   (hn : HNr ca) (m : Mem) (fin : (Int32 × Mem)) (hm : fX12_tubAhead N m = some fin) : CI l D ca ad yX12_tubAhead cwX12_tubAhead rmX12_tubAhead [.ref (ad 99)] m fin.1 fin.2 := by
  refine start (by decide) (Nat.le_of_ble_eq_true rfl) ?_
  intro p e s mm args below meth c H locs ls X hI hr hl
  have X : CX p s mm args meth c cX12_tubAhead 2 RX12 D ca ad (WA ca ad s.heap.size) := X
  have hx := X.1
  have hb := X.2.1
  have hl : lv_has ls 2 [(0, .ref (ad 99))] := hl
  have hm : ((fX12_fresher (1 : Int32) m).bind (fun q1 => (fX12_atHand N 105 (6 : Int32) q1 m).bind (fun q3 => (fX12_goOn N q3.2).bind (fun q5 => some (q3.1, q5))))) = some fin := hm
  refine lv_aload_n hx hb dX12_tubAhead_0 rfl (lv_at hl 0 rfl) ?_
  refine lv_aload_n hx hb dX12_tubAhead_1 rfl (lv_at hl 0 rfl) ?_
  refine gR X hI fdX12_25 (la_99 hn) rf12_7 dX12_tubAhead_2 ?_
  refine lv_bipush (v := (6 : Int32)) hx hb dX12_tubAhead_5 (by decide) ?_
  refine lv_aload_n hx hb dX12_tubAhead_7 rfl (lv_at hl 0 rfl) ?_
  refine lv_iconst (v := (1 : Int32)) hx hb dX12_tubAhead_8 (by decide) ?_
  obtain ⟨q1, h2, hm⟩ := g_b hm
  refine backI X hI (runV X hI (ctX12_fresher (1 : Int32)  hn _ _ h2 _) mdX12_224 (la_99 hn) rfl ⟨rfl, rfl⟩ ⟨Nat.le_of_ble_eq_true rfl, Nat.le_of_ble_eq_true rfl⟩ rfl hl.1 rfl (Nat.le_of_ble_eq_true rfl) dX12_tubAhead_9) (fun H locs hI => ?_)
  obtain ⟨q3, h4, hm⟩ := g_b hm
  refine backI X hI (runV X hI (ctX12_atHand N 105 (6 : Int32) q1 (ly_self (la_105 hn)) hn _ _ h4 _) mdX12_228 (la_99 hn) rfl ⟨rfl, rfl⟩ ⟨Nat.le_of_ble_eq_true rfl, Nat.le_of_ble_eq_true rfl⟩ rfl hl.1 rfl (Nat.le_of_ble_eq_true rfl) dX12_tubAhead_12) (fun H locs hI => ?_)
  refine lv_istore_n (lv' := [(1, .int q3.1), (0, .ref (ad 99))]) hx hb dX12_tubAhead_15 rfl hl (by decide) rfl (fun ls hl => ?_)
  refine lv_aload_n hx hb dX12_tubAhead_16 rfl (lv_at hl 1 rfl) ?_
  obtain ⟨q5, h6, hm⟩ := g_b hm
  refine backV X hI (runV X hI (ctX12_goOn N  hn _ _ h6 _) mdX12_232 (la_99 hn) rfl ⟨rfl, rfl⟩ ⟨Nat.le_of_ble_eq_true rfl, Nat.le_of_ble_eq_true rfl⟩ rfl hl.1 rfl (Nat.le_of_ble_eq_true rfl) dX12_tubAhead_17) (fun H locs hI => ?_)
  refine lv_iload_n hx hb dX12_tubAhead_20 rfl (lv_at hl 0 rfl) ?_
  exact rI X hI hr (g_p hm).1 (g_p hm).2 dX12_tubAhead_21
abbrev rmX12_isFull : Room := { frames := 1, cells := 0, slots := 0, locals := 21 }
def fX12_isFull  (x1 : Int32) (m : Mem) : Option Int32 := if x1 = (0 : Int32) then ((fX12_fresher (0 : Int32) m).bind (fun q2 => if q2 = (6 : Int32) then (some (1 : Int32)) else (some (0 : Int32)))) else (if x1 = (1 : Int32) then ((fX12_fresher (1 : Int32) m).bind (fun q6 => if q6 = (6 : Int32) then (some (1 : Int32)) else (some (0 : Int32)))) else (if x1 = (2 : Int32) then ((fX12_fresher (2 : Int32) m).bind (fun q10 => if q10 = (12 : Int32) then (some (1 : Int32)) else (some (0 : Int32)))) else (if x1 = (3 : Int32) then ((fX12_fresher (3 : Int32) m).bind (fun q14 => if q14 = (10 : Int32) then (some (1 : Int32)) else (some (0 : Int32)))) else (if x1 = (4 : Int32) then ((fX12_fresher (4 : Int32) m).bind (fun q18 => if q18 = (8 : Int32) then (some (1 : Int32)) else (some (0 : Int32)))) else (some (0 : Int32))))))
set_option maxHeartbeats 4000000 in
set_option maxRecDepth 100000 in
theorem ctX12_isFull {l : Launch} {D : va_G} {ca : Nat → ClassId} {ad : Nat → Nat}  (x1 : Int32)  (hn : HNr ca) (m : Mem) (fin : Int32) (hm : fX12_isFull x1 m = some fin) : CI l D ca ad yX12_isFull cwX12_isFull rmX12_isFull [.ref (ad 99), .int x1] m fin m := by
  refine start (by decide) (Nat.le_of_ble_eq_true rfl) ?_
  intro p e s mm args below meth c H locs ls X hI hr hl
  have X : CX p s mm args meth c cX12_isFull 2 RX12 D ca ad (WA ca ad s.heap.size) := X
  have hx := X.1
  have hb := X.2.1
  have hl : lv_has ls 2 [(0, .ref (ad 99)), (1, .int x1)] := hl
  have hm : (if x1 = (0 : Int32) then ((fX12_fresher (0 : Int32) m).bind (fun q2 => if q2 = (6 : Int32) then (some (1 : Int32)) else (some (0 : Int32)))) else (if x1 = (1 : Int32) then ((fX12_fresher (1 : Int32) m).bind (fun q6 => if q6 = (6 : Int32) then (some (1 : Int32)) else (some (0 : Int32)))) else (if x1 = (2 : Int32) then ((fX12_fresher (2 : Int32) m).bind (fun q10 => if q10 = (12 : Int32) then (some (1 : Int32)) else (some (0 : Int32)))) else (if x1 = (3 : Int32) then ((fX12_fresher (3 : Int32) m).bind (fun q14 => if q14 = (10 : Int32) then (some (1 : Int32)) else (some (0 : Int32)))) else (if x1 = (4 : Int32) then ((fX12_fresher (4 : Int32) m).bind (fun q18 => if q18 = (8 : Int32) then (some (1 : Int32)) else (some (0 : Int32)))) else (some (0 : Int32))))))) = some fin := hm
  have hpm : m = m := rfl
  refine lv_iload_n hx hb dX12_isFull_0 rfl (lv_at hl 1 rfl) ?_
  by_cases c1 : x1 = (0 : Int32)
  · have hm := g_t c1 hm
    refine lv_tableIn (tgt := 36) hx hb dX12_isFull_1 (by rw [c1]; decide) (by rw [c1]; decide) (off := 35) (by rw [c1]; decide) (by decide) ?_
    refine lv_aload_n hx hb dX12_isFull_36 rfl (lv_at hl 0 rfl) ?_
    refine lv_iconst (v := (0 : Int32)) hx hb dX12_isFull_37 (by decide) ?_
    obtain ⟨q2, h3, hm⟩ := g_b hm
    refine backI X hI (runV X hI (ctX12_fresher (0 : Int32)  hn _ _ h3 _) mdX12_224 (la_99 hn) rfl ⟨rfl, rfl⟩ ⟨Nat.le_of_ble_eq_true rfl, Nat.le_of_ble_eq_true rfl⟩ rfl hl.1 rfl (Nat.le_of_ble_eq_true rfl) dX12_isFull_38) (fun H locs hI => ?_)
    refine lv_bipush (v := (6 : Int32)) hx hb dX12_isFull_41 (by decide) ?_
    refine lv_icmp_ne (tgt := 50) hx hb dX12_isFull_43 (by decide) (fun c4 => ?_) (fun c4 => ?_)
    · have hm := g_f c4 hm
      refine lv_iconst (v := (0 : Int32)) hx hb dX12_isFull_50 (by decide) ?_
      exact rZ X hI hr (by decide) (g_1 hm) hpm dX12_isFull_51
    · have hm := g_t c4 hm
      refine lv_iconst (v := (1 : Int32)) hx hb dX12_isFull_46 (by decide) ?_
      refine lv_goto (tgt := 51) hx hb dX12_isFull_47 (by decide) ?_
      exact rZ X hI hr (by decide) (g_1 hm) hpm dX12_isFull_51
  · have hm := g_f c1 hm
    by_cases c5 : x1 = (1 : Int32)
    · have hm := g_t c5 hm
      refine lv_tableIn (tgt := 52) hx hb dX12_isFull_1 (by rw [c5]; decide) (by rw [c5]; decide) (off := 51) (by rw [c5]; decide) (by decide) ?_
      refine lv_aload_n hx hb dX12_isFull_52 rfl (lv_at hl 0 rfl) ?_
      refine lv_iconst (v := (1 : Int32)) hx hb dX12_isFull_53 (by decide) ?_
      obtain ⟨q6, h7, hm⟩ := g_b hm
      refine backI X hI (runV X hI (ctX12_fresher (1 : Int32)  hn _ _ h7 _) mdX12_224 (la_99 hn) rfl ⟨rfl, rfl⟩ ⟨Nat.le_of_ble_eq_true rfl, Nat.le_of_ble_eq_true rfl⟩ rfl hl.1 rfl (Nat.le_of_ble_eq_true rfl) dX12_isFull_54) (fun H locs hI => ?_)
      refine lv_bipush (v := (6 : Int32)) hx hb dX12_isFull_57 (by decide) ?_
      refine lv_icmp_ne (tgt := 66) hx hb dX12_isFull_59 (by decide) (fun c8 => ?_) (fun c8 => ?_)
      · have hm := g_f c8 hm
        refine lv_iconst (v := (0 : Int32)) hx hb dX12_isFull_66 (by decide) ?_
        exact rZ X hI hr (by decide) (g_1 hm) hpm dX12_isFull_67
      · have hm := g_t c8 hm
        refine lv_iconst (v := (1 : Int32)) hx hb dX12_isFull_62 (by decide) ?_
        refine lv_goto (tgt := 67) hx hb dX12_isFull_63 (by decide) ?_
        exact rZ X hI hr (by decide) (g_1 hm) hpm dX12_isFull_67
    · have hm := g_f c5 hm
      by_cases c9 : x1 = (2 : Int32)
      · have hm := g_t c9 hm
        refine lv_tableIn (tgt := 68) hx hb dX12_isFull_1 (by rw [c9]; decide) (by rw [c9]; decide) (off := 67) (by rw [c9]; decide) (by decide) ?_
        refine lv_aload_n hx hb dX12_isFull_68 rfl (lv_at hl 0 rfl) ?_
        refine lv_iconst (v := (2 : Int32)) hx hb dX12_isFull_69 (by decide) ?_
        obtain ⟨q10, h11, hm⟩ := g_b hm
        refine backI X hI (runV X hI (ctX12_fresher (2 : Int32)  hn _ _ h11 _) mdX12_224 (la_99 hn) rfl ⟨rfl, rfl⟩ ⟨Nat.le_of_ble_eq_true rfl, Nat.le_of_ble_eq_true rfl⟩ rfl hl.1 rfl (Nat.le_of_ble_eq_true rfl) dX12_isFull_70) (fun H locs hI => ?_)
        refine lv_bipush (v := (12 : Int32)) hx hb dX12_isFull_73 (by decide) ?_
        refine lv_icmp_ne (tgt := 82) hx hb dX12_isFull_75 (by decide) (fun c12 => ?_) (fun c12 => ?_)
        · have hm := g_f c12 hm
          refine lv_iconst (v := (0 : Int32)) hx hb dX12_isFull_82 (by decide) ?_
          exact rZ X hI hr (by decide) (g_1 hm) hpm dX12_isFull_83
        · have hm := g_t c12 hm
          refine lv_iconst (v := (1 : Int32)) hx hb dX12_isFull_78 (by decide) ?_
          refine lv_goto (tgt := 83) hx hb dX12_isFull_79 (by decide) ?_
          exact rZ X hI hr (by decide) (g_1 hm) hpm dX12_isFull_83
      · have hm := g_f c9 hm
        by_cases c13 : x1 = (3 : Int32)
        · have hm := g_t c13 hm
          refine lv_tableIn (tgt := 84) hx hb dX12_isFull_1 (by rw [c13]; decide) (by rw [c13]; decide) (off := 83) (by rw [c13]; decide) (by decide) ?_
          refine lv_aload_n hx hb dX12_isFull_84 rfl (lv_at hl 0 rfl) ?_
          refine lv_iconst (v := (3 : Int32)) hx hb dX12_isFull_85 (by decide) ?_
          obtain ⟨q14, h15, hm⟩ := g_b hm
          refine backI X hI (runV X hI (ctX12_fresher (3 : Int32)  hn _ _ h15 _) mdX12_224 (la_99 hn) rfl ⟨rfl, rfl⟩ ⟨Nat.le_of_ble_eq_true rfl, Nat.le_of_ble_eq_true rfl⟩ rfl hl.1 rfl (Nat.le_of_ble_eq_true rfl) dX12_isFull_86) (fun H locs hI => ?_)
          refine lv_bipush (v := (10 : Int32)) hx hb dX12_isFull_89 (by decide) ?_
          refine lv_icmp_ne (tgt := 98) hx hb dX12_isFull_91 (by decide) (fun c16 => ?_) (fun c16 => ?_)
          · have hm := g_f c16 hm
            refine lv_iconst (v := (0 : Int32)) hx hb dX12_isFull_98 (by decide) ?_
            exact rZ X hI hr (by decide) (g_1 hm) hpm dX12_isFull_99
          · have hm := g_t c16 hm
            refine lv_iconst (v := (1 : Int32)) hx hb dX12_isFull_94 (by decide) ?_
            refine lv_goto (tgt := 99) hx hb dX12_isFull_95 (by decide) ?_
            exact rZ X hI hr (by decide) (g_1 hm) hpm dX12_isFull_99
        · have hm := g_f c13 hm
          by_cases c17 : x1 = (4 : Int32)
          · have hm := g_t c17 hm
            refine lv_tableIn (tgt := 100) hx hb dX12_isFull_1 (by rw [c17]; decide) (by rw [c17]; decide) (off := 99) (by rw [c17]; decide) (by decide) ?_
            refine lv_aload_n hx hb dX12_isFull_100 rfl (lv_at hl 0 rfl) ?_
            refine lv_iconst (v := (4 : Int32)) hx hb dX12_isFull_101 (by decide) ?_
            obtain ⟨q18, h19, hm⟩ := g_b hm
            refine backI X hI (runV X hI (ctX12_fresher (4 : Int32)  hn _ _ h19 _) mdX12_224 (la_99 hn) rfl ⟨rfl, rfl⟩ ⟨Nat.le_of_ble_eq_true rfl, Nat.le_of_ble_eq_true rfl⟩ rfl hl.1 rfl (Nat.le_of_ble_eq_true rfl) dX12_isFull_102) (fun H locs hI => ?_)
            refine lv_bipush (v := (8 : Int32)) hx hb dX12_isFull_105 (by decide) ?_
            refine lv_icmp_ne (tgt := 114) hx hb dX12_isFull_107 (by decide) (fun c20 => ?_) (fun c20 => ?_)
            · have hm := g_f c20 hm
              refine lv_iconst (v := (0 : Int32)) hx hb dX12_isFull_114 (by decide) ?_
              exact rZ X hI hr (by decide) (g_1 hm) hpm dX12_isFull_115
            · have hm := g_t c20 hm
              refine lv_iconst (v := (1 : Int32)) hx hb dX12_isFull_110 (by decide) ?_
              refine lv_goto (tgt := 115) hx hb dX12_isFull_111 (by decide) ?_
              exact rZ X hI hr (by decide) (g_1 hm) hpm dX12_isFull_115
          · have hm := g_f c17 hm
            have ec1 := lv_neT c1 (a := 0) (by decide)
            have ec5 := lv_neT c5 (a := 1) (by decide)
            have ec9 := lv_neT c9 (a := 2) (by decide)
            have ec13 := lv_neT c13 (a := 3) (by decide)
            have ec17 := lv_neT c17 (a := 4) (by decide)
            refine lv_tableOut (tgt := 116) hx hb dX12_isFull_1 (by omega) (by decide) ?_
            refine lv_iconst (v := (0 : Int32)) hx hb dX12_isFull_116 (by decide) ?_
            exact rZ X hI hr (by decide) (g_1 hm) hpm dX12_isFull_117
abbrev rmX12_pipeLine : Room := { frames := 8, cells := 0, slots := 0, locals := 175 }
def fX12_pipeLine_67 (N : Nat) (x1 : Int32) (m : Mem) : Option Mem := (fX12_goOn N m).bind (fun q12 => (fX12_numeral N (1 : Int32) (9 : Int32) q12).bind (fun q14 => if x1 < 0 ∨ 16 ≤ x1.toNatClampNeg then none else ((fX12_fresher (4 : Int32) (mI q14.2 116 x1.toNatClampNeg q14.1)).bind (fun q17 => (fX12_reads (4 : Int32) (q17 + (1 : Int32)) (mI q14.2 116 x1.toNatClampNeg q14.1)).bind (fun q19 => some q19)))))
set_option maxHeartbeats 4000000 in
set_option maxRecDepth 100000 in
theorem tX12_pipeLine_67 (N : Nat) {l : Launch} {D : va_G} {ca : Nat → ClassId} {ad : Nat → Nat} {p : Program} {e : Env} {s : State} {mm : MethodId} {args : Array Value} {below : List Frame} {meth : Method} {c : Code}  (hn : HNr ca) (X : CX p s mm args meth c cX12_pipeLine 2 RX12 D ca ad (WA ca ad s.heap.size)) (hr : meth.sig.returnType = none) (fin : Mem)  : ∀ (x1 : Int32) (m : Mem) (H : Heap) (locs : List Loc) (ls : Array Slot), IW D ca ad (WA ca ad s.heap.size) s m H locs → lv_has ls 2 [(0, .ref (ad 99)), (1, .int x1)] → fX12_pipeLine_67 N x1 m = some fin → W p l e rmX12_pipeLine s mm args below meth c H locs 0 0 (MQ below (QV D ca ad s.heap.size fin) args s 0 0 (WA ca ad s.heap.size)) (F0 mm 67 ls []) := by
  have hx := X.1
  have hb := X.2.1
  intro x1 m H locs ls hI hl hm
  have hm : ((fX12_goOn N m).bind (fun q12 => (fX12_numeral N (1 : Int32) (9 : Int32) q12).bind (fun q14 => if x1 < 0 ∨ 16 ≤ x1.toNatClampNeg then none else ((fX12_fresher (4 : Int32) (mI q14.2 116 x1.toNatClampNeg q14.1)).bind (fun q17 => (fX12_reads (4 : Int32) (q17 + (1 : Int32)) (mI q14.2 116 x1.toNatClampNeg q14.1)).bind (fun q19 => some q19)))))) = some fin := hm
  refine lv_aload_n hx hb dX12_pipeLine_67 rfl (lv_at hl 0 rfl) ?_
  obtain ⟨q12, h13, hm⟩ := g_b hm
  refine backV X hI (runV X hI (ctX12_goOn N  hn _ _ h13 _) mdX12_232 (la_99 hn) rfl ⟨rfl, rfl⟩ ⟨Nat.le_of_ble_eq_true rfl, Nat.le_of_ble_eq_true rfl⟩ rfl hl.1 rfl (Nat.le_of_ble_eq_true rfl) dX12_pipeLine_68) (fun H locs hI => ?_)
  refine lv_aload_n hx hb dX12_pipeLine_71 rfl (lv_at hl 0 rfl) ?_
  refine gR X hI fdX12_58 (la_99 hn) rf12_18 dX12_pipeLine_72 ?_
  refine lv_iload_n hx hb dX12_pipeLine_75 rfl (lv_at hl 1 rfl) ?_
  refine lv_aload_n hx hb dX12_pipeLine_76 rfl (lv_at hl 0 rfl) ?_
  refine lv_iconst (v := (1 : Int32)) hx hb dX12_pipeLine_77 (by decide) ?_
  refine lv_bipush (v := (9 : Int32)) hx hb dX12_pipeLine_78 (by decide) ?_
  obtain ⟨q14, h15, hm⟩ := g_b hm
  refine backI X hI (runV X hI (ctX12_numeral N (1 : Int32) (9 : Int32)  hn _ _ h15 _) mdX12_244 (la_99 hn) rfl ⟨rfl, rfl⟩ ⟨Nat.le_of_ble_eq_true rfl, Nat.le_of_ble_eq_true rfl⟩ rfl hl.1 rfl (Nat.le_of_ble_eq_true rfl) dX12_pipeLine_80) (fun H locs hI => ?_)
  obtain ⟨g16, hm⟩ := g_no hm
  refine sI X hI (la_116 hn) g16 dX12_pipeLine_83 (fun H locs hI => ?_)
  refine lv_aload_n hx hb dX12_pipeLine_84 rfl (lv_at hl 0 rfl) ?_
  refine lv_iconst (v := (4 : Int32)) hx hb dX12_pipeLine_85 (by decide) ?_
  refine lv_aload_n hx hb dX12_pipeLine_86 rfl (lv_at hl 0 rfl) ?_
  refine lv_iconst (v := (4 : Int32)) hx hb dX12_pipeLine_87 (by decide) ?_
  obtain ⟨q17, h18, hm⟩ := g_b hm
  refine backI X hI (runV X hI (ctX12_fresher (4 : Int32)  hn _ _ h18 _) mdX12_224 (la_99 hn) rfl ⟨rfl, rfl⟩ ⟨Nat.le_of_ble_eq_true rfl, Nat.le_of_ble_eq_true rfl⟩ rfl hl.1 rfl (Nat.le_of_ble_eq_true rfl) dX12_pipeLine_88) (fun H locs hI => ?_)
  refine lv_iconst (v := (1 : Int32)) hx hb dX12_pipeLine_91 (by decide) ?_
  refine lv_iadd hx hb dX12_pipeLine_92 ?_
  obtain ⟨q19, h20, hm⟩ := g_b hm
  refine backV X hI (runV X hI (ctX12_reads (4 : Int32) (q17 + (1 : Int32))  hn _ _ h20 _) mdX12_248 (la_99 hn) rfl ⟨rfl, rfl⟩ ⟨Nat.le_of_ble_eq_true rfl, Nat.le_of_ble_eq_true rfl⟩ rfl hl.1 rfl (Nat.le_of_ble_eq_true rfl) dX12_pipeLine_93) (fun H locs hI => ?_)
  exact rV X hI hr (g_1 hm) dX12_pipeLine_96
def fX12_pipeLine (N : Nat)  (m : Mem) : Option Mem := (fX12_fresher (4 : Int32) m).bind (fun q1 => (fX12_tubAhead N m).bind (fun q3 => if ((8 : Int32) + q1) < 0 ∨ 16 ≤ ((8 : Int32) + q1).toNatClampNeg then none else ((fX12_fresher (1 : Int32) (mI q3.2 114 ((8 : Int32) + q1).toNatClampNeg q3.1)).bind (fun q6 => (fX12_atHand N 105 (6 : Int32) q6 (mI q3.2 114 ((8 : Int32) + q1).toNatClampNeg q3.1)).bind (fun q8 => if ((8 : Int32) + q1) < 0 ∨ 16 ≤ ((8 : Int32) + q1).toNatClampNeg then none else (if ((mI q8.2 115 ((8 : Int32) + q1).toNatClampNeg q8.1).1 99 30) = 0 then (if ((8 : Int32) + q1) < 0 ∨ 16 ≤ ((8 : Int32) + q1).toNatClampNeg then none else (if ((8 : Int32) + q1) < 0 ∨ 16 ≤ ((8 : Int32) + q1).toNatClampNeg then none else (if ((mI q8.2 115 ((8 : Int32) + q1).toNatClampNeg q8.1).1 115 ((8 : Int32) + q1).toNatClampNeg) = ((mI q8.2 115 ((8 : Int32) + q1).toNatClampNeg q8.1).1 114 ((8 : Int32) + q1).toNatClampNeg) then ((fX12_wrong (5 : Int32) (mI q8.2 115 ((8 : Int32) + q1).toNatClampNeg q8.1)).bind (fun q24 => fX12_pipeLine_67 N ((8 : Int32) + q1) q24)) else (fX12_pipeLine_67 N ((8 : Int32) + q1) (mI q8.2 115 ((8 : Int32) + q1).toNatClampNeg q8.1))))) else (fX12_pipeLine_67 N ((8 : Int32) + q1) (mI q8.2 115 ((8 : Int32) + q1).toNatClampNeg q8.1))))))))
set_option maxHeartbeats 4000000 in
set_option maxRecDepth 100000 in
theorem ctX12_pipeLine {l : Launch} {D : va_G} {ca : Nat → ClassId} {ad : Nat → Nat} (N : Nat)   (hn : HNr ca) (m : Mem) (fin : Mem) (hm : fX12_pipeLine N m = some fin) : CV l D ca ad yX12_pipeLine cwX12_pipeLine rmX12_pipeLine [.ref (ad 99)] m fin := by
  refine start (by decide) (Nat.le_of_ble_eq_true rfl) ?_
  intro p e s mm args below meth c H locs ls X hI hr hl
  have X : CX p s mm args meth c cX12_pipeLine 2 RX12 D ca ad (WA ca ad s.heap.size) := X
  have hx := X.1
  have hb := X.2.1
  have hl : lv_has ls 2 [(0, .ref (ad 99))] := hl
  have hm : ((fX12_fresher (4 : Int32) m).bind (fun q1 => (fX12_tubAhead N m).bind (fun q3 => if ((8 : Int32) + q1) < 0 ∨ 16 ≤ ((8 : Int32) + q1).toNatClampNeg then none else ((fX12_fresher (1 : Int32) (mI q3.2 114 ((8 : Int32) + q1).toNatClampNeg q3.1)).bind (fun q6 => (fX12_atHand N 105 (6 : Int32) q6 (mI q3.2 114 ((8 : Int32) + q1).toNatClampNeg q3.1)).bind (fun q8 => if ((8 : Int32) + q1) < 0 ∨ 16 ≤ ((8 : Int32) + q1).toNatClampNeg then none else (if ((mI q8.2 115 ((8 : Int32) + q1).toNatClampNeg q8.1).1 99 30) = 0 then (if ((8 : Int32) + q1) < 0 ∨ 16 ≤ ((8 : Int32) + q1).toNatClampNeg then none else (if ((8 : Int32) + q1) < 0 ∨ 16 ≤ ((8 : Int32) + q1).toNatClampNeg then none else (if ((mI q8.2 115 ((8 : Int32) + q1).toNatClampNeg q8.1).1 115 ((8 : Int32) + q1).toNatClampNeg) = ((mI q8.2 115 ((8 : Int32) + q1).toNatClampNeg q8.1).1 114 ((8 : Int32) + q1).toNatClampNeg) then ((fX12_wrong (5 : Int32) (mI q8.2 115 ((8 : Int32) + q1).toNatClampNeg q8.1)).bind (fun q24 => fX12_pipeLine_67 N ((8 : Int32) + q1) q24)) else (fX12_pipeLine_67 N ((8 : Int32) + q1) (mI q8.2 115 ((8 : Int32) + q1).toNatClampNeg q8.1))))) else (fX12_pipeLine_67 N ((8 : Int32) + q1) (mI q8.2 115 ((8 : Int32) + q1).toNatClampNeg q8.1))))))))) = some fin := hm
  refine lv_bipush (v := (8 : Int32)) hx hb dX12_pipeLine_0 (by decide) ?_
  refine lv_aload_n hx hb dX12_pipeLine_2 rfl (lv_at hl 0 rfl) ?_
  refine lv_iconst (v := (4 : Int32)) hx hb dX12_pipeLine_3 (by decide) ?_
  obtain ⟨q1, h2, hm⟩ := g_b hm
  refine backI X hI (runV X hI (ctX12_fresher (4 : Int32)  hn _ _ h2 _) mdX12_224 (la_99 hn) rfl ⟨rfl, rfl⟩ ⟨Nat.le_of_ble_eq_true rfl, Nat.le_of_ble_eq_true rfl⟩ rfl hl.1 rfl (Nat.le_of_ble_eq_true rfl) dX12_pipeLine_4) (fun H locs hI => ?_)
  refine lv_iadd hx hb dX12_pipeLine_7 ?_
  refine lv_istore_n (lv' := [(1, .int ((8 : Int32) + q1)), (0, .ref (ad 99))]) hx hb dX12_pipeLine_8 rfl hl (by decide) rfl (fun ls hl => ?_)
  refine lv_aload_n hx hb dX12_pipeLine_9 rfl (lv_at hl 1 rfl) ?_
  refine gR X hI fdX12_52 (la_99 hn) rf12_16 dX12_pipeLine_10 ?_
  refine lv_iload_n hx hb dX12_pipeLine_13 rfl (lv_at hl 0 rfl) ?_
  refine lv_aload_n hx hb dX12_pipeLine_14 rfl (lv_at hl 1 rfl) ?_
  obtain ⟨q3, h4, hm⟩ := g_b hm
  refine backI X hI (runV X hI (ctX12_tubAhead N  hn _ _ h4 _) mdX12_252 (la_99 hn) rfl ⟨rfl, rfl⟩ ⟨Nat.le_of_ble_eq_true rfl, Nat.le_of_ble_eq_true rfl⟩ rfl hl.1 rfl (Nat.le_of_ble_eq_true rfl) dX12_pipeLine_15) (fun H locs hI => ?_)
  obtain ⟨g5, hm⟩ := g_no hm
  refine sI X hI (la_114 hn) g5 dX12_pipeLine_18 (fun H locs hI => ?_)
  refine lv_aload_n hx hb dX12_pipeLine_19 rfl (lv_at hl 1 rfl) ?_
  refine gR X hI fdX12_55 (la_99 hn) rf12_17 dX12_pipeLine_20 ?_
  refine lv_iload_n hx hb dX12_pipeLine_23 rfl (lv_at hl 0 rfl) ?_
  refine lv_aload_n hx hb dX12_pipeLine_24 rfl (lv_at hl 1 rfl) ?_
  refine lv_aload_n hx hb dX12_pipeLine_25 rfl (lv_at hl 1 rfl) ?_
  refine gR X hI fdX12_25 (la_99 hn) rf12_7 dX12_pipeLine_26 ?_
  refine lv_bipush (v := (6 : Int32)) hx hb dX12_pipeLine_29 (by decide) ?_
  refine lv_aload_n hx hb dX12_pipeLine_31 rfl (lv_at hl 1 rfl) ?_
  refine lv_iconst (v := (1 : Int32)) hx hb dX12_pipeLine_32 (by decide) ?_
  obtain ⟨q6, h7, hm⟩ := g_b hm
  refine backI X hI (runV X hI (ctX12_fresher (1 : Int32)  hn _ _ h7 _) mdX12_224 (la_99 hn) rfl ⟨rfl, rfl⟩ ⟨Nat.le_of_ble_eq_true rfl, Nat.le_of_ble_eq_true rfl⟩ rfl hl.1 rfl (Nat.le_of_ble_eq_true rfl) dX12_pipeLine_33) (fun H locs hI => ?_)
  obtain ⟨q8, h9, hm⟩ := g_b hm
  refine backI X hI (runV X hI (ctX12_atHand N 105 (6 : Int32) q6 (ly_self (la_105 hn)) hn _ _ h9 _) mdX12_228 (la_99 hn) rfl ⟨rfl, rfl⟩ ⟨Nat.le_of_ble_eq_true rfl, Nat.le_of_ble_eq_true rfl⟩ rfl hl.1 rfl (Nat.le_of_ble_eq_true rfl) dX12_pipeLine_36) (fun H locs hI => ?_)
  obtain ⟨g10, hm⟩ := g_no hm
  refine sI X hI (la_115 hn) g10 dX12_pipeLine_39 (fun H locs hI => ?_)
  refine lv_aload_n hx hb dX12_pipeLine_40 rfl (lv_at hl 1 rfl) ?_
  refine gI X hI fdX12_208 (la_99 hn) dX12_pipeLine_41 ?_
  refine lv_if_ne (tgt := 67) hx hb dX12_pipeLine_44 (by decide) (fun c11 => ?_) (fun c11 => ?_)
  · have hm := g_f c11 hm
    exact tX12_pipeLine_67 N hn X hr fin  ((8 : Int32) + q1) (mI q8.2 115 ((8 : Int32) + q1).toNatClampNeg q8.1) H locs ls hI (lv_sub hl [1, 0] rfl) hm
  · have hm := g_t c11 hm
    refine lv_aload_n hx hb dX12_pipeLine_47 rfl (lv_at hl 1 rfl) ?_
    refine gR X hI fdX12_55 (la_99 hn) rf12_17 dX12_pipeLine_48 ?_
    refine lv_iload_n hx hb dX12_pipeLine_51 rfl (lv_at hl 0 rfl) ?_
    obtain ⟨g21, hm⟩ := g_no hm
    refine aI X hI (la_115 hn) g21 dX12_pipeLine_52 ?_
    refine lv_aload_n hx hb dX12_pipeLine_53 rfl (lv_at hl 1 rfl) ?_
    refine gR X hI fdX12_52 (la_99 hn) rf12_16 dX12_pipeLine_54 ?_
    refine lv_iload_n hx hb dX12_pipeLine_57 rfl (lv_at hl 0 rfl) ?_
    obtain ⟨g22, hm⟩ := g_no hm
    refine aI X hI (la_114 hn) g22 dX12_pipeLine_58 ?_
    refine lv_icmp_ne (tgt := 67) hx hb dX12_pipeLine_59 (by decide) (fun c23 => ?_) (fun c23 => ?_)
    · have hm := g_f c23 hm
      exact tX12_pipeLine_67 N hn X hr fin  ((8 : Int32) + q1) (mI q8.2 115 ((8 : Int32) + q1).toNatClampNeg q8.1) H locs ls hI (lv_sub hl [1, 0] rfl) hm
    · have hm := g_t c23 hm
      refine lv_aload_n hx hb dX12_pipeLine_62 rfl (lv_at hl 1 rfl) ?_
      refine lv_iconst (v := (5 : Int32)) hx hb dX12_pipeLine_63 (by decide) ?_
      obtain ⟨q24, h25, hm⟩ := g_b hm
      refine backV X hI (runV X hI (ctX12_wrong (5 : Int32)  hn _ _ h25 _) mdX12_217 (la_99 hn) rfl ⟨rfl, rfl⟩ ⟨Nat.le_of_ble_eq_true rfl, Nat.le_of_ble_eq_true rfl⟩ rfl hl.1 rfl (Nat.le_of_ble_eq_true rfl) dX12_pipeLine_64) (fun H locs hI => ?_)
      exact tX12_pipeLine_67 N hn X hr fin  ((8 : Int32) + q1) q24 H locs ls hI (lv_sub hl [1, 0] rfl) hm
abbrev rmX12_puts : Room := { frames := 1, cells := 0, slots := 0, locals := 22 }
def fX12_puts  (x1 : Int32) (x2 : Int32) (m : Mem) : Option Mem := if (m.1 99 30) = 0 then ((fX12_fresher (7 : Int32) m).bind (fun q2 => if ((64 : Int32) + q2) < 0 ∨ 128 ≤ ((64 : Int32) + q2).toNatClampNeg then none else ((fX12_fresher (7 : Int32) (mI m 119 ((64 : Int32) + q2).toNatClampNeg x1)).bind (fun q5 => if ((64 : Int32) + q5) < 0 ∨ 128 ≤ ((64 : Int32) + q5).toNatClampNeg then none else ((fX12_fresher (7 : Int32) (mI (mI m 119 ((64 : Int32) + q2).toNatClampNeg x1) 120 ((64 : Int32) + q5).toNatClampNeg x2)).bind (fun q8 => (fX12_reads (7 : Int32) (q8 + (1 : Int32)) (mI (mI m 119 ((64 : Int32) + q2).toNatClampNeg x1) 120 ((64 : Int32) + q5).toNatClampNeg x2)).bind (fun q10 => some q10))))))) else (some m)
set_option maxHeartbeats 4000000 in
set_option maxRecDepth 100000 in
theorem ctX12_puts {l : Launch} {D : va_G} {ca : Nat → ClassId} {ad : Nat → Nat}  (x1 : Int32) (x2 : Int32)  (hn : HNr ca) (m : Mem) (fin : Mem) (hm : fX12_puts x1 x2 m = some fin) : CV l D ca ad yX12_puts cwX12_puts rmX12_puts [.ref (ad 99), .int x1, .int x2] m fin := by
  refine start (by decide) (Nat.le_of_ble_eq_true rfl) ?_
  intro p e s mm args below meth c H locs ls X hI hr hl
  have X : CX p s mm args meth c cX12_puts 3 RX12 D ca ad (WA ca ad s.heap.size) := X
  have hx := X.1
  have hb := X.2.1
  have hl : lv_has ls 3 [(0, .ref (ad 99)), (1, .int x1), (2, .int x2)] := hl
  have hm : (if (m.1 99 30) = 0 then ((fX12_fresher (7 : Int32) m).bind (fun q2 => if ((64 : Int32) + q2) < 0 ∨ 128 ≤ ((64 : Int32) + q2).toNatClampNeg then none else ((fX12_fresher (7 : Int32) (mI m 119 ((64 : Int32) + q2).toNatClampNeg x1)).bind (fun q5 => if ((64 : Int32) + q5) < 0 ∨ 128 ≤ ((64 : Int32) + q5).toNatClampNeg then none else ((fX12_fresher (7 : Int32) (mI (mI m 119 ((64 : Int32) + q2).toNatClampNeg x1) 120 ((64 : Int32) + q5).toNatClampNeg x2)).bind (fun q8 => (fX12_reads (7 : Int32) (q8 + (1 : Int32)) (mI (mI m 119 ((64 : Int32) + q2).toNatClampNeg x1) 120 ((64 : Int32) + q5).toNatClampNeg x2)).bind (fun q10 => some q10))))))) else (some m)) = some fin := hm
  refine lv_aload_n hx hb dX12_puts_0 rfl (lv_at hl 0 rfl) ?_
  refine gI X hI fdX12_208 (la_99 hn) dX12_puts_1 ?_
  refine lv_if_eq (tgt := 8) hx hb dX12_puts_4 (by decide) (fun c1 => ?_) (fun c1 => ?_)
  · have hm := g_t c1 hm
    refine lv_aload_n hx hb dX12_puts_8 rfl (lv_at hl 0 rfl) ?_
    refine gR X hI fdX12_67 (la_99 hn) rf12_21 dX12_puts_9 ?_
    refine lv_bipush (v := (64 : Int32)) hx hb dX12_puts_12 (by decide) ?_
    refine lv_aload_n hx hb dX12_puts_14 rfl (lv_at hl 0 rfl) ?_
    refine lv_bipush (v := (7 : Int32)) hx hb dX12_puts_15 (by decide) ?_
    obtain ⟨q2, h3, hm⟩ := g_b hm
    refine backI X hI (runV X hI (ctX12_fresher (7 : Int32)  hn _ _ h3 _) mdX12_224 (la_99 hn) rfl ⟨rfl, rfl⟩ ⟨Nat.le_of_ble_eq_true rfl, Nat.le_of_ble_eq_true rfl⟩ rfl hl.1 rfl (Nat.le_of_ble_eq_true rfl) dX12_puts_17) (fun H locs hI => ?_)
    refine lv_iadd hx hb dX12_puts_20 ?_
    refine lv_iload_n hx hb dX12_puts_21 rfl (lv_at hl 1 rfl) ?_
    obtain ⟨g4, hm⟩ := g_no hm
    refine sI X hI (la_119 hn) g4 dX12_puts_22 (fun H locs hI => ?_)
    refine lv_aload_n hx hb dX12_puts_23 rfl (lv_at hl 0 rfl) ?_
    refine gR X hI fdX12_70 (la_99 hn) rf12_22 dX12_puts_24 ?_
    refine lv_bipush (v := (64 : Int32)) hx hb dX12_puts_27 (by decide) ?_
    refine lv_aload_n hx hb dX12_puts_29 rfl (lv_at hl 0 rfl) ?_
    refine lv_bipush (v := (7 : Int32)) hx hb dX12_puts_30 (by decide) ?_
    obtain ⟨q5, h6, hm⟩ := g_b hm
    refine backI X hI (runV X hI (ctX12_fresher (7 : Int32)  hn _ _ h6 _) mdX12_224 (la_99 hn) rfl ⟨rfl, rfl⟩ ⟨Nat.le_of_ble_eq_true rfl, Nat.le_of_ble_eq_true rfl⟩ rfl hl.1 rfl (Nat.le_of_ble_eq_true rfl) dX12_puts_32) (fun H locs hI => ?_)
    refine lv_iadd hx hb dX12_puts_35 ?_
    refine lv_iload_n hx hb dX12_puts_36 rfl (lv_at hl 2 rfl) ?_
    obtain ⟨g7, hm⟩ := g_no hm
    refine sI X hI (la_120 hn) g7 dX12_puts_37 (fun H locs hI => ?_)
    refine lv_aload_n hx hb dX12_puts_38 rfl (lv_at hl 0 rfl) ?_
    refine lv_bipush (v := (7 : Int32)) hx hb dX12_puts_39 (by decide) ?_
    refine lv_aload_n hx hb dX12_puts_41 rfl (lv_at hl 0 rfl) ?_
    refine lv_bipush (v := (7 : Int32)) hx hb dX12_puts_42 (by decide) ?_
    obtain ⟨q8, h9, hm⟩ := g_b hm
    refine backI X hI (runV X hI (ctX12_fresher (7 : Int32)  hn _ _ h9 _) mdX12_224 (la_99 hn) rfl ⟨rfl, rfl⟩ ⟨Nat.le_of_ble_eq_true rfl, Nat.le_of_ble_eq_true rfl⟩ rfl hl.1 rfl (Nat.le_of_ble_eq_true rfl) dX12_puts_44) (fun H locs hI => ?_)
    refine lv_iconst (v := (1 : Int32)) hx hb dX12_puts_47 (by decide) ?_
    refine lv_iadd hx hb dX12_puts_48 ?_
    obtain ⟨q10, h11, hm⟩ := g_b hm
    refine backV X hI (runV X hI (ctX12_reads (7 : Int32) (q8 + (1 : Int32))  hn _ _ h11 _) mdX12_248 (la_99 hn) rfl ⟨rfl, rfl⟩ ⟨Nat.le_of_ble_eq_true rfl, Nat.le_of_ble_eq_true rfl⟩ rfl hl.1 rfl (Nat.le_of_ble_eq_true rfl) dX12_puts_49) (fun H locs hI => ?_)
    exact rV X hI hr (g_1 hm) dX12_puts_52
  · have hm := g_f c1 hm
    exact rV X hI hr (g_1 hm) dX12_puts_7
abbrev rmX12_knot : Room := { frames := 1, cells := 0, slots := 0, locals := 21 }
def fX12_knot   (m : Mem) : Option Mem := if (m.1 99 30) = 0 then (if (m.1 99 35) = (64 : Int32) then ((fX12_wrong (2 : Int32) m).bind (fun q3 => some q3)) else (some (mI m 99 35 ((m.1 99 35) + (1 : Int32))))) else (some m)
set_option maxHeartbeats 4000000 in
set_option maxRecDepth 100000 in
theorem ctX12_knot {l : Launch} {D : va_G} {ca : Nat → ClassId} {ad : Nat → Nat}    (hn : HNr ca) (m : Mem) (fin : Mem) (hm : fX12_knot  m = some fin) : CV l D ca ad yX12_knot cwX12_knot rmX12_knot [.ref (ad 99)] m fin := by
  refine start (by decide) (Nat.le_of_ble_eq_true rfl) ?_
  intro p e s mm args below meth c H locs ls X hI hr hl
  have X : CX p s mm args meth c cX12_knot 1 RX12 D ca ad (WA ca ad s.heap.size) := X
  have hx := X.1
  have hb := X.2.1
  have hl : lv_has ls 1 [(0, .ref (ad 99))] := hl
  have hm : (if (m.1 99 30) = 0 then (if (m.1 99 35) = (64 : Int32) then ((fX12_wrong (2 : Int32) m).bind (fun q3 => some q3)) else (some (mI m 99 35 ((m.1 99 35) + (1 : Int32))))) else (some m)) = some fin := hm
  refine lv_aload_n hx hb dX12_knot_0 rfl (lv_at hl 0 rfl) ?_
  refine gI X hI fdX12_208 (la_99 hn) dX12_knot_1 ?_
  refine lv_if_eq (tgt := 8) hx hb dX12_knot_4 (by decide) (fun c1 => ?_) (fun c1 => ?_)
  · have hm := g_t c1 hm
    refine lv_aload_n hx hb dX12_knot_8 rfl (lv_at hl 0 rfl) ?_
    refine gI X hI fdX12_270 (la_99 hn) dX12_knot_9 ?_
    refine lv_bipush (v := (64 : Int32)) hx hb dX12_knot_12 (by decide) ?_
    refine lv_icmp_ne (tgt := 25) hx hb dX12_knot_14 (by decide) (fun c2 => ?_) (fun c2 => ?_)
    · have hm := g_f c2 hm
      refine lv_aload_n hx hb dX12_knot_25 rfl (lv_at hl 0 rfl) ?_
      refine lv_dup hx hb dX12_knot_26 rfl ?_
      refine gI X hI fdX12_270 (la_99 hn) dX12_knot_27 ?_
      refine lv_iconst (v := (1 : Int32)) hx hb dX12_knot_30 (by decide) ?_
      refine lv_iadd hx hb dX12_knot_31 ?_
      refine pI X hI fpX12_270 (la_99 hn) dX12_knot_32 (fun H locs hI => ?_)
      exact rV X hI hr (g_1 hm) dX12_knot_35
    · have hm := g_t c2 hm
      refine lv_aload_n hx hb dX12_knot_17 rfl (lv_at hl 0 rfl) ?_
      refine lv_iconst (v := (2 : Int32)) hx hb dX12_knot_18 (by decide) ?_
      obtain ⟨q3, h4, hm⟩ := g_b hm
      refine backV X hI (runV X hI (ctX12_wrong (2 : Int32)  hn _ _ h4 _) mdX12_217 (la_99 hn) rfl ⟨rfl, rfl⟩ ⟨Nat.le_of_ble_eq_true rfl, Nat.le_of_ble_eq_true rfl⟩ rfl hl.1 rfl (Nat.le_of_ble_eq_true rfl) dX12_knot_19) (fun H locs hI => ?_)
      refine lv_goto (tgt := 35) hx hb dX12_knot_22 (by decide) ?_
      exact rV X hI hr (g_1 hm) dX12_knot_35
  · have hm := g_f c1 hm
    exact rV X hI hr (g_1 hm) dX12_knot_7
abbrev rmX12_half : Room := { frames := 0, cells := 0, slots := 0, locals := 0 }
def fX12_half_7 (N : Nat) : Nat → Nat → Int32 → Int32 → Mem → Option Mem
  | 0, _, _, _, _ => none
  | n + 1, x0, x1, x2, m => if x1 ≤ x2 then (some m) else (if (x1 + x2) < 0 ∨ (lay x0).2 ≤ (x1 + x2).toNatClampNeg then none else (if x2 < 0 ∨ (lay x0).2 ≤ x2.toNatClampNeg then none else (fX12_half_7 N n x0 x1 (x2 + (1 : Int32)) (mI m x0 x2.toNatClampNeg (m.1 x0 (x1 + x2).toNatClampNeg)))))
set_option maxHeartbeats 4000000 in
set_option maxRecDepth 100000 in
theorem tX12_half_7 (N : Nat) {l : Launch} {D : va_G} {ca : Nat → ClassId} {ad : Nat → Nat} {p : Program} {e : Env} {s : State} {mm : MethodId} {args : Array Value} {below : List Frame} {meth : Method} {c : Code}  (hn : HNr ca) (X : CX p s mm args meth c cX12_half 3 RX12 D ca ad (WA ca ad s.heap.size)) (hr : meth.sig.returnType = none) (fin : Mem)  : ∀ (n : Nat) (x0 : Nat) (x1 : Int32) (x2 : Int32) (m : Mem) (H : Heap) (locs : List Loc) (ls : Array Slot), ly ca x0 = (1, (lay x0).2) → IW D ca ad (WA ca ad s.heap.size) s m H locs → lv_has ls 3 [(0, .ref (ad x0)), (1, .int x1), (2, .int x2)] → fX12_half_7 N n x0 x1 x2 m = some fin → W p l e rmX12_half s mm args below meth c H locs 0 0 (MQ below (QV D ca ad s.heap.size fin) args s 0 0 (WA ca ad s.heap.size)) (F0 mm 7 ls []) := by
  have hx := X.1
  have hb := X.2.1
  intro n
  induction n with
  | zero => intro x0 x1 x2 m H locs ls hx0 hI hl hm
            exact absurd hm (by intro q; cases q)
  | succ n ih =>
    intro x0 x1 x2 m H locs ls hx0 hI hl hm
    have hm : (if x1 ≤ x2 then (some m) else (if (x1 + x2) < 0 ∨ (lay x0).2 ≤ (x1 + x2).toNatClampNeg then none else (if x2 < 0 ∨ (lay x0).2 ≤ x2.toNatClampNeg then none else (fX12_half_7 N n x0 x1 (x2 + (1 : Int32)) (mI m x0 x2.toNatClampNeg (m.1 x0 (x1 + x2).toNatClampNeg)))))) = some fin := hm
    refine lv_iload_n hx hb dX12_half_7 rfl (lv_at hl 2 rfl) ?_
    refine lv_iload_n hx hb dX12_half_8 rfl (lv_at hl 1 rfl) ?_
    refine lv_icmp_ge (tgt := 26) hx hb dX12_half_9 (by decide) (fun c1 => ?_) (fun c1 => ?_)
    · have hm := g_t c1 hm
      exact rV X hI hr (g_1 hm) dX12_half_26
    · have hm := g_f c1 hm
      refine lv_aload_n hx hb dX12_half_12 rfl (lv_at hl 0 rfl) ?_
      refine lv_iload_n hx hb dX12_half_13 rfl (lv_at hl 2 rfl) ?_
      refine lv_aload_n hx hb dX12_half_14 rfl (lv_at hl 0 rfl) ?_
      refine lv_iload_n hx hb dX12_half_15 rfl (lv_at hl 1 rfl) ?_
      refine lv_iload_n hx hb dX12_half_16 rfl (lv_at hl 2 rfl) ?_
      refine lv_iadd hx hb dX12_half_17 ?_
      obtain ⟨g2, hm⟩ := g_no hm
      refine aI X hI hx0 g2 dX12_half_18 ?_
      obtain ⟨g3, hm⟩ := g_no hm
      refine sI X hI hx0 g3 dX12_half_19 (fun H locs hI => ?_)
      refine lv_iinc (v := (x2 + (1 : Int32))) (lv' := [(2, .int (x2 + (1 : Int32))), (0, .ref (ad x0)), (1, .int x1)]) hx hb dX12_half_20 hl (k := 2) rfl rfl (by decide) rfl (fun ls hl => ?_)
      refine lv_goto (tgt := 7) hx hb dX12_half_23 (by decide) ?_
      exact ih x0 x1 (x2 + (1 : Int32)) (mI m x0 x2.toNatClampNeg (m.1 x0 (x1 + x2).toNatClampNeg)) H locs ls hx0 hI (lv_sub hl [1, 2, 0] rfl) hm
def fX12_half (N : Nat) (x0 : Nat) (m : Mem) : Option Mem := fX12_half_7 N N x0 ((Int32.ofNat (lay x0).2) / (2 : Int32)) (0 : Int32) m
set_option maxHeartbeats 4000000 in
set_option maxRecDepth 100000 in
theorem ctX12_half {l : Launch} {D : va_G} {ca : Nat → ClassId} {ad : Nat → Nat} (N : Nat) (x0 : Nat) (hx0 : ly ca x0 = (1, (lay x0).2)) (hn : HNr ca) (m : Mem) (fin : Mem) (hm : fX12_half N x0 m = some fin) : CV l D ca ad yX12_half cwX12_half rmX12_half [.ref (ad x0)] m fin := by
  refine start (by decide) (Nat.le_of_ble_eq_true rfl) ?_
  intro p e s mm args below meth c H locs ls X hI hr hl
  have X : CX p s mm args meth c cX12_half 3 RX12 D ca ad (WA ca ad s.heap.size) := X
  have hx := X.1
  have hb := X.2.1
  have hl : lv_has ls 3 [(0, .ref (ad x0))] := hl
  have hm : (fX12_half_7 N N x0 ((Int32.ofNat (lay x0).2) / (2 : Int32)) (0 : Int32) m) = some fin := hm
  refine lv_aload_n hx hb dX12_half_0 rfl (lv_at hl 0 rfl) ?_
  refine nA X hI hx0 dX12_half_1 ?_
  refine lv_iconst (v := (2 : Int32)) hx hb dX12_half_2 (by decide) ?_
  refine lv_idiv hx hb dX12_half_3 (by decide) ?_
  refine lv_istore_n (lv' := [(1, .int ((Int32.ofNat (lay x0).2) / (2 : Int32))), (0, .ref (ad x0))]) hx hb dX12_half_4 rfl hl (by decide) rfl (fun ls hl => ?_)
  refine lv_iconst (v := (0 : Int32)) hx hb dX12_half_5 (by decide) ?_
  refine lv_istore_n (lv' := [(2, .int (0 : Int32)), (1, .int ((Int32.ofNat (lay x0).2) / (2 : Int32))), (0, .ref (ad x0))]) hx hb dX12_half_6 rfl hl (by decide) rfl (fun ls hl => ?_)
  exact tX12_half_7 N hn X hr fin  N x0 ((Int32.ofNat (lay x0).2) / (2 : Int32)) (0 : Int32) m H locs ls hx0 hI (lv_sub hl [2, 1, 0] rfl) hm
abbrev rmX12_fault : Room := { frames := 0, cells := 0, slots := 0, locals := 0 }
abbrev cwX12_fault : Cond := .code yX12_fault cX12_fault 2 (some .int)
theorem cmX12_fault : cwX12_fault ∈ BIG := (tb7 (List.mem_of_getElem? (i := 133) rfl) rfl)
def fX12_fault  (x1 : Int32) (m : Mem) : Option (Int32 × Mem) := if x1 = 0 then (some (((mI m 99 0 (0 : Int32)).1 99 32), (mI m 99 0 (0 : Int32)))) else (if x1 = (1 : Int32) then (some (((mI m 99 0 (0 : Int32)).1 99 33), (mI m 99 0 (0 : Int32)))) else (some ((-1 : Int32), (mI m 99 0 (0 : Int32)))))
set_option maxHeartbeats 4000000 in
set_option maxRecDepth 100000 in
theorem ctX12_fault {l : Launch} {D : va_G} {ca : Nat → ClassId} {ad : Nat → Nat}  (x1 : Int32)  (hn : HNr ca) (m : Mem) (fin : (Int32 × Mem)) (hm : fX12_fault x1 m = some fin) : CI l D ca ad yX12_fault cwX12_fault rmX12_fault [.ref (ad 99), .int x1] m fin.1 fin.2 := by
  refine start (by decide) (Nat.le_of_ble_eq_true rfl) ?_
  intro p e s mm args below meth c H locs ls X hI hr hl
  have X : CX p s mm args meth c cX12_fault 2 RX12 D ca ad (WA ca ad s.heap.size) := X
  have hx := X.1
  have hb := X.2.1
  have hl : lv_has ls 2 [(0, .ref (ad 99)), (1, .int x1)] := hl
  have hm : (if x1 = 0 then (some (((mI m 99 0 (0 : Int32)).1 99 32), (mI m 99 0 (0 : Int32)))) else (if x1 = (1 : Int32) then (some (((mI m 99 0 (0 : Int32)).1 99 33), (mI m 99 0 (0 : Int32)))) else (some ((-1 : Int32), (mI m 99 0 (0 : Int32)))))) = some fin := hm
  refine lv_aload_n hx hb dX12_fault_0 rfl (lv_at hl 0 rfl) ?_
  refine lv_iconst (v := (0 : Int32)) hx hb dX12_fault_1 (by decide) ?_
  refine pI X hI fpX12_154 (la_99 hn) dX12_fault_2 (fun H locs hI => ?_)
  refine lv_iload_n hx hb dX12_fault_5 rfl (lv_at hl 1 rfl) ?_
  refine lv_if_ne (tgt := 16) hx hb dX12_fault_6 (by decide) (fun c1 => ?_) (fun c1 => ?_)
  · have hm := g_f c1 hm
    refine lv_iload_n hx hb dX12_fault_16 rfl (lv_at hl 1 rfl) ?_
    refine lv_iconst (v := (1 : Int32)) hx hb dX12_fault_17 (by decide) ?_
    refine lv_icmp_ne (tgt := 28) hx hb dX12_fault_18 (by decide) (fun c2 => ?_) (fun c2 => ?_)
    · have hm := g_f c2 hm
      refine lv_iconst (v := (-1 : Int32)) hx hb dX12_fault_28 (by decide) ?_
      exact rI X hI hr (g_p hm).1 (g_p hm).2 dX12_fault_29
    · have hm := g_t c2 hm
      refine lv_aload_n hx hb dX12_fault_21 rfl (lv_at hl 0 rfl) ?_
      refine gI X hI fdX12_73 (la_99 hn) dX12_fault_22 ?_
      refine lv_goto (tgt := 29) hx hb dX12_fault_25 (by decide) ?_
      exact rI X hI hr (g_p hm).1 (g_p hm).2 dX12_fault_29
  · have hm := g_t c1 hm
    refine lv_aload_n hx hb dX12_fault_9 rfl (lv_at hl 0 rfl) ?_
    refine gI X hI fdX12_303 (la_99 hn) dX12_fault_10 ?_
    refine lv_goto (tgt := 29) hx hb dX12_fault_13 (by decide) ?_
    exact rI X hI hr (g_p hm).1 (g_p hm).2 dX12_fault_29
abbrev rmX12_named : Room := { frames := 1, cells := 0, slots := 0, locals := 24 }
abbrev cwX12_named : Cond := .code yX12_named cX12_named 3 (some .int)
theorem cmX12_named : cwX12_named ∈ BIG := (tb7 (List.mem_of_getElem? (i := 137) rfl) rfl)
def fX12_named (N : Nat) (x1 : Int32) (x2 : Int32) (m : Mem) : Option (Int32 × Mem) := if x1 = (0 : Int32) then ((fX12_found N 102 (0 : Int32) ((mI m 99 0 (0 : Int32)).1 101 0) x2 (mI m 99 0 (0 : Int32))).bind (fun q2 => some (q2, (mI m 99 0 (0 : Int32))))) else (if x1 = (1 : Int32) then ((fX12_found N 105 (0 : Int32) ((mI m 99 0 (0 : Int32)).1 101 1) x2 (mI m 99 0 (0 : Int32))).bind (fun q5 => some (q5, (mI m 99 0 (0 : Int32))))) else (some ((-1 : Int32), (mI m 99 0 (0 : Int32)))))
set_option maxHeartbeats 4000000 in
set_option maxRecDepth 100000 in
theorem ctX12_named {l : Launch} {D : va_G} {ca : Nat → ClassId} {ad : Nat → Nat} (N : Nat) (x1 : Int32) (x2 : Int32)  (hn : HNr ca) (m : Mem) (fin : (Int32 × Mem)) (hm : fX12_named N x1 x2 m = some fin) : CI l D ca ad yX12_named cwX12_named rmX12_named [.ref (ad 99), .int x1, .int x2] m fin.1 fin.2 := by
  refine start (by decide) (Nat.le_of_ble_eq_true rfl) ?_
  intro p e s mm args below meth c H locs ls X hI hr hl
  have X : CX p s mm args meth c cX12_named 3 RX12 D ca ad (WA ca ad s.heap.size) := X
  have hx := X.1
  have hb := X.2.1
  have hl : lv_has ls 3 [(0, .ref (ad 99)), (1, .int x1), (2, .int x2)] := hl
  have hm : (if x1 = (0 : Int32) then ((fX12_found N 102 (0 : Int32) ((mI m 99 0 (0 : Int32)).1 101 0) x2 (mI m 99 0 (0 : Int32))).bind (fun q2 => some (q2, (mI m 99 0 (0 : Int32))))) else (if x1 = (1 : Int32) then ((fX12_found N 105 (0 : Int32) ((mI m 99 0 (0 : Int32)).1 101 1) x2 (mI m 99 0 (0 : Int32))).bind (fun q5 => some (q5, (mI m 99 0 (0 : Int32))))) else (some ((-1 : Int32), (mI m 99 0 (0 : Int32)))))) = some fin := hm
  refine lv_aload_n hx hb dX12_named_0 rfl (lv_at hl 0 rfl) ?_
  refine lv_iconst (v := (0 : Int32)) hx hb dX12_named_1 (by decide) ?_
  refine pI X hI fpX12_154 (la_99 hn) dX12_named_2 (fun H locs hI => ?_)
  refine lv_iload_n hx hb dX12_named_5 rfl (lv_at hl 1 rfl) ?_
  by_cases c1 : x1 = (0 : Int32)
  · have hm := g_t c1 hm
    refine lv_lookup (tgt := 32) hx hb dX12_named_6 (by decide) (off := 26) (by rw [c1]; decide) (by decide) ?_
    refine lv_aload_n hx hb dX12_named_32 rfl (lv_at hl 0 rfl) ?_
    refine gR X hI fdX12_16 (la_99 hn) rf12_4 dX12_named_33 ?_
    refine lv_iconst (v := (0 : Int32)) hx hb dX12_named_36 (by decide) ?_
    refine lv_aload_n hx hb dX12_named_37 rfl (lv_at hl 0 rfl) ?_
    refine gR X hI fdX12_13 (la_99 hn) rf12_3 dX12_named_38 ?_
    refine lv_iconst (v := (0 : Int32)) hx hb dX12_named_41 (by decide) ?_
    refine aIc (j := 0) X hI (la_101 hn) (by decide) (by decide) dX12_named_42 ?_
    refine lv_iload_n hx hb dX12_named_43 rfl (lv_at hl 2 rfl) ?_
    obtain ⟨q2, h3, hm⟩ := g_b hm
    refine backI X hI (runS X hI (ctX12_found N 102 (0 : Int32) ((mI m 99 0 (0 : Int32)).1 101 0) x2 (ly_self (la_102 hn)) hn _ _ h3 _) msX12_220 ⟨rfl, rfl⟩ ⟨Nat.le_of_ble_eq_true rfl, Nat.le_of_ble_eq_true rfl⟩ rfl hl.1 rfl (Nat.le_of_ble_eq_true rfl) dX12_named_44) (fun H locs hI => ?_)
    exact rI X hI hr (g_p hm).1 (g_p hm).2 dX12_named_47
  · have hm := g_f c1 hm
    by_cases c4 : x1 = (1 : Int32)
    · have hm := g_t c4 hm
      refine lv_lookup (tgt := 48) hx hb dX12_named_6 (by decide) (off := 42) (by rw [c4]; decide) (by decide) ?_
      refine lv_aload_n hx hb dX12_named_48 rfl (lv_at hl 0 rfl) ?_
      refine gR X hI fdX12_25 (la_99 hn) rf12_7 dX12_named_49 ?_
      refine lv_iconst (v := (0 : Int32)) hx hb dX12_named_52 (by decide) ?_
      refine lv_aload_n hx hb dX12_named_53 rfl (lv_at hl 0 rfl) ?_
      refine gR X hI fdX12_13 (la_99 hn) rf12_3 dX12_named_54 ?_
      refine lv_iconst (v := (1 : Int32)) hx hb dX12_named_57 (by decide) ?_
      refine aIc (j := 1) X hI (la_101 hn) (by decide) (by decide) dX12_named_58 ?_
      refine lv_iload_n hx hb dX12_named_59 rfl (lv_at hl 2 rfl) ?_
      obtain ⟨q5, h6, hm⟩ := g_b hm
      refine backI X hI (runS X hI (ctX12_found N 105 (0 : Int32) ((mI m 99 0 (0 : Int32)).1 101 1) x2 (ly_self (la_105 hn)) hn _ _ h6 _) msX12_220 ⟨rfl, rfl⟩ ⟨Nat.le_of_ble_eq_true rfl, Nat.le_of_ble_eq_true rfl⟩ rfl hl.1 rfl (Nat.le_of_ble_eq_true rfl) dX12_named_60) (fun H locs hI => ?_)
      exact rI X hI hr (g_p hm).1 (g_p hm).2 dX12_named_63
    · have hm := g_f c4 hm
      refine lv_lookup (tgt := 64) hx hb dX12_named_6 (by decide) (off := 58) (by rw [lv_osw c1 (by decide), lv_osw c4 (by decide)]; rfl) (by decide) ?_
      refine lv_iconst (v := (-1 : Int32)) hx hb dX12_named_64 (by decide) ?_
      exact rI X hI hr (g_p hm).1 (g_p hm).2 dX12_named_65
abbrev rmX12_is : Room := { frames := 0, cells := 0, slots := 0, locals := 0 }
def fX12_is  (x0 : Int32) (m : Mem) : Option Int64 := if x0 = 0 then (some (0 : Int64)) else (some (1 : Int64))
set_option maxHeartbeats 4000000 in
set_option maxRecDepth 100000 in
theorem ctX12_is {l : Launch} {D : va_G} {ca : Nat → ClassId} {ad : Nat → Nat}  (x0 : Int32)  (hn : HNr ca) (m : Mem) (fin : Int64) (hm : fX12_is x0 m = some fin) : CL l D ca ad yX12_is cwX12_is rmX12_is [.int x0] m fin m := by
  refine start (by decide) (Nat.le_of_ble_eq_true rfl) ?_
  intro p e s mm args below meth c H locs ls X hI hr hl
  have X : CX p s mm args meth c cX12_is 1 RX12 D ca ad (WA ca ad s.heap.size) := X
  have hx := X.1
  have hb := X.2.1
  have hl : lv_has ls 1 [(0, .int x0)] := hl
  have hm : (if x0 = 0 then (some (0 : Int64)) else (some (1 : Int64))) = some fin := hm
  have hpm : m = m := rfl
  refine lv_iload_n hx hb dX12_is_0 rfl (lv_at hl 0 rfl) ?_
  refine lv_if_eq (tgt := 8) hx hb dX12_is_1 (by decide) (fun c1 => ?_) (fun c1 => ?_)
  · have hm := g_t c1 hm
    refine lv_lconst (v := (0 : Int64)) hx hb dX12_is_8 (by decide) ?_
    exact rL X hI hr (g_1 hm) hpm dX12_is_9
  · have hm := g_f c1 hm
    refine lv_lconst (v := (1 : Int64)) hx hb dX12_is_4 (by decide) ?_
    refine lv_goto (tgt := 9) hx hb dX12_is_5 (by decide) ?_
    exact rL X hI hr (g_1 hm) hpm dX12_is_9
abbrev rmX12_works : Room := { frames := 1, cells := 0, slots := 0, locals := 24 }
def fX12_works_407  (x6 : Int64) (m : Mem) : Option (Int32 × Mem) := if ((m.1 99 38) - (1 : Int32)) < 0 ∨ 64 ≤ ((m.1 99 38) - (1 : Int32)).toNatClampNeg then none else (if 0 < (lg_cmp x6 (1000000000000 : Int64)) then (some ((0 : Int32), (mJ m 122 ((m.1 99 38) - (1 : Int32)).toNatClampNeg x6))) else (if (lg_cmp x6 (-1000000000000 : Int64)) < 0 then (some ((0 : Int32), (mJ m 122 ((m.1 99 38) - (1 : Int32)).toNatClampNeg x6))) else (some ((1 : Int32), (mJ m 122 ((m.1 99 38) - (1 : Int32)).toNatClampNeg x6)))))
set_option maxHeartbeats 4000000 in
set_option maxRecDepth 100000 in
theorem tX12_works_407  {l : Launch} {D : va_G} {ca : Nat → ClassId} {ad : Nat → Nat} {p : Program} {e : Env} {s : State} {mm : MethodId} {args : Array Value} {below : List Frame} {meth : Method} {c : Code}  (hn : HNr ca) (X : CX p s mm args meth c cX12_works 8 RX12 D ca ad (WA ca ad s.heap.size)) (hr : meth.sig.returnType = (some .boolean)) (fin : (Int32 × Mem))  : ∀ (x6 : Int64) (m : Mem) (H : Heap) (locs : List Loc) (ls : Array Slot), IW D ca ad (WA ca ad s.heap.size) s m H locs → lv_has ls 8 [(0, .ref (ad 99)), (6, .long x6)] → fX12_works_407  x6 m = some fin → W p l e rmX12_works s mm args below meth c H locs 0 0 (MQ below (QI D ca ad s.heap.size fin.1 fin.2) args s 0 0 (WA ca ad s.heap.size)) (F0 mm 407 ls []) := by
  have hx := X.1
  have hb := X.2.1
  intro x6 m H locs ls hI hl hm
  have hm : (if ((m.1 99 38) - (1 : Int32)) < 0 ∨ 64 ≤ ((m.1 99 38) - (1 : Int32)).toNatClampNeg then none else (if 0 < (lg_cmp x6 (1000000000000 : Int64)) then (some ((0 : Int32), (mJ m 122 ((m.1 99 38) - (1 : Int32)).toNatClampNeg x6))) else (if (lg_cmp x6 (-1000000000000 : Int64)) < 0 then (some ((0 : Int32), (mJ m 122 ((m.1 99 38) - (1 : Int32)).toNatClampNeg x6))) else (some ((1 : Int32), (mJ m 122 ((m.1 99 38) - (1 : Int32)).toNatClampNeg x6)))))) = some fin := hm
  refine lv_aload_n hx hb dX12_works_407 rfl (lv_at hl 0 rfl) ?_
  refine gR X hI fdX12_81 (la_99 hn) rf12_37 dX12_works_408 ?_
  refine lv_aload_n hx hb dX12_works_411 rfl (lv_at hl 0 rfl) ?_
  refine gI X hI fdX12_320 (la_99 hn) dX12_works_412 ?_
  refine lv_iconst (v := (1 : Int32)) hx hb dX12_works_415 (by decide) ?_
  refine lv_isub hx hb dX12_works_416 ?_
  refine lv_lload hx hb dX12_works_417 (lv_at hl 1 rfl) ?_
  obtain ⟨g6, hm⟩ := g_no hm
  refine sL X hI (la_122 hn) g6 dX12_works_419 (fun H locs hI => ?_)
  refine lv_lload hx hb dX12_works_420 (lv_at hl 1 rfl) ?_
  refine lv_ldc2 hx hb X.2.2.2.1 (X.2.2.2.2.1 _ kcX12_333) dX12_works_422 ?_
  refine W.lcmp hx hb dX12_works_425 ?_
  refine lv_if_gt (tgt := 442) hx hb dX12_works_426 (by decide) (fun c7 => ?_) (fun c7 => ?_)
  · have hm := g_t c7 hm
    refine lv_iconst (v := (0 : Int32)) hx hb dX12_works_442 (by decide) ?_
    exact rZ X hI hr (by decide) (g_p hm).1 (g_p hm).2 dX12_works_443
  · have hm := g_f c7 hm
    refine lv_lload hx hb dX12_works_429 (lv_at hl 1 rfl) ?_
    refine lv_ldc2 hx hb X.2.2.2.1 (X.2.2.2.2.1 _ kcX12_335) dX12_works_431 ?_
    refine W.lcmp hx hb dX12_works_434 ?_
    refine lv_if_lt (tgt := 442) hx hb dX12_works_435 (by decide) (fun c8 => ?_) (fun c8 => ?_)
    · have hm := g_t c8 hm
      refine lv_iconst (v := (0 : Int32)) hx hb dX12_works_442 (by decide) ?_
      exact rZ X hI hr (by decide) (g_p hm).1 (g_p hm).2 dX12_works_443
    · have hm := g_f c8 hm
      refine lv_iconst (v := (1 : Int32)) hx hb dX12_works_438 (by decide) ?_
      refine lv_goto (tgt := 443) hx hb dX12_works_439 (by decide) ?_
      exact rZ X hI hr (by decide) (g_p hm).1 (g_p hm).2 dX12_works_443
def fX12_works_212  (x2 : Int64) (x4 : Int64) (m : Mem) : Option (Int32 × Mem) := fX12_works_407 (x4 * x2) m
set_option maxHeartbeats 4000000 in
set_option maxRecDepth 100000 in
theorem tX12_works_212  {l : Launch} {D : va_G} {ca : Nat → ClassId} {ad : Nat → Nat} {p : Program} {e : Env} {s : State} {mm : MethodId} {args : Array Value} {below : List Frame} {meth : Method} {c : Code}  (hn : HNr ca) (X : CX p s mm args meth c cX12_works 8 RX12 D ca ad (WA ca ad s.heap.size)) (hr : meth.sig.returnType = (some .boolean)) (fin : (Int32 × Mem))  : ∀ (x2 : Int64) (x4 : Int64) (m : Mem) (H : Heap) (locs : List Loc) (ls : Array Slot), IW D ca ad (WA ca ad s.heap.size) s m H locs → lv_has ls 8 [(0, .ref (ad 99)), (2, .long x2), (4, .long x4)] → fX12_works_212  x2 x4 m = some fin → W p l e rmX12_works s mm args below meth c H locs 0 0 (MQ below (QI D ca ad s.heap.size fin.1 fin.2) args s 0 0 (WA ca ad s.heap.size)) (F0 mm 212 ls []) := by
  have hx := X.1
  have hb := X.2.1
  intro x2 x4 m H locs ls hI hl hm
  have hm : (fX12_works_407 (x4 * x2) m) = some fin := hm
  refine lv_lload hx hb dX12_works_212 (lv_at hl 2 rfl) ?_
  refine lv_lload_n hx hb dX12_works_214 rfl (lv_at hl 1 rfl) ?_
  refine lv_lmul hx hb dX12_works_215 ?_
  refine lv_lstore (lv' := [(6, .long (x4 * x2)), (0, .ref (ad 99)), (2, .long x2), (4, .long x4)]) hx hb dX12_works_216 hl (by decide) rfl (fun ls hl => ?_)
  refine lv_goto (tgt := 407) hx hb dX12_works_218 (by decide) ?_
  exact tX12_works_407  hn X hr fin  (x4 * x2) m H locs ls hI (lv_sub hl [1, 0] rfl) hm
def fX12_works_250  (y0 : Int32) (m : Mem) : Option (Int32 × Mem) := (fX12_is y0 m).bind (fun q18 => fX12_works_407 q18 m)
set_option maxHeartbeats 4000000 in
set_option maxRecDepth 100000 in
theorem tX12_works_250  {l : Launch} {D : va_G} {ca : Nat → ClassId} {ad : Nat → Nat} {p : Program} {e : Env} {s : State} {mm : MethodId} {args : Array Value} {below : List Frame} {meth : Method} {c : Code}  (hn : HNr ca) (X : CX p s mm args meth c cX12_works 8 RX12 D ca ad (WA ca ad s.heap.size)) (hr : meth.sig.returnType = (some .boolean)) (fin : (Int32 × Mem))  : ∀ (y0 : Int32) (m : Mem) (H : Heap) (locs : List Loc) (ls : Array Slot), IW D ca ad (WA ca ad s.heap.size) s m H locs → lv_has ls 8 [(0, .ref (ad 99))] → fX12_works_250  y0 m = some fin → W p l e rmX12_works s mm args below meth c H locs 0 0 (MQ below (QI D ca ad s.heap.size fin.1 fin.2) args s 0 0 (WA ca ad s.heap.size)) (F0 mm 250 ls [.int y0]) := by
  have hx := X.1
  have hb := X.2.1
  intro y0 m H locs ls hI hl hm
  have hm : ((fX12_is y0 m).bind (fun q18 => fX12_works_407 q18 m)) = some fin := hm
  obtain ⟨q18, h19, hm⟩ := g_b hm
  refine backL X hI (runS X hI (ctX12_is y0  hn _ _ h19 _) msX12_323 ⟨rfl, rfl⟩ ⟨Nat.le_of_ble_eq_true rfl, Nat.le_of_ble_eq_true rfl⟩ rfl hl.1 rfl (Nat.le_of_ble_eq_true rfl) dX12_works_250) (fun H locs hI => ?_)
  refine lv_lstore (lv' := [(6, .long q18), (0, .ref (ad 99))]) hx hb dX12_works_253 hl (by decide) rfl (fun ls hl => ?_)
  refine lv_goto (tgt := 407) hx hb dX12_works_255 (by decide) ?_
  exact tX12_works_407  hn X hr fin  q18 m H locs ls hI (lv_sub hl [1, 0] rfl) hm
def fX12_works_290  (y0 : Int32) (m : Mem) : Option (Int32 × Mem) := (fX12_is y0 m).bind (fun q22 => fX12_works_407 q22 m)
set_option maxHeartbeats 4000000 in
set_option maxRecDepth 100000 in
theorem tX12_works_290  {l : Launch} {D : va_G} {ca : Nat → ClassId} {ad : Nat → Nat} {p : Program} {e : Env} {s : State} {mm : MethodId} {args : Array Value} {below : List Frame} {meth : Method} {c : Code}  (hn : HNr ca) (X : CX p s mm args meth c cX12_works 8 RX12 D ca ad (WA ca ad s.heap.size)) (hr : meth.sig.returnType = (some .boolean)) (fin : (Int32 × Mem))  : ∀ (y0 : Int32) (m : Mem) (H : Heap) (locs : List Loc) (ls : Array Slot), IW D ca ad (WA ca ad s.heap.size) s m H locs → lv_has ls 8 [(0, .ref (ad 99))] → fX12_works_290  y0 m = some fin → W p l e rmX12_works s mm args below meth c H locs 0 0 (MQ below (QI D ca ad s.heap.size fin.1 fin.2) args s 0 0 (WA ca ad s.heap.size)) (F0 mm 290 ls [.int y0]) := by
  have hx := X.1
  have hb := X.2.1
  intro y0 m H locs ls hI hl hm
  have hm : ((fX12_is y0 m).bind (fun q22 => fX12_works_407 q22 m)) = some fin := hm
  obtain ⟨q22, h23, hm⟩ := g_b hm
  refine backL X hI (runS X hI (ctX12_is y0  hn _ _ h23 _) msX12_323 ⟨rfl, rfl⟩ ⟨Nat.le_of_ble_eq_true rfl, Nat.le_of_ble_eq_true rfl⟩ rfl hl.1 rfl (Nat.le_of_ble_eq_true rfl) dX12_works_290) (fun H locs hI => ?_)
  refine lv_lstore (lv' := [(6, .long q22), (0, .ref (ad 99))]) hx hb dX12_works_293 hl (by decide) rfl (fun ls hl => ?_)
  refine lv_goto (tgt := 407) hx hb dX12_works_295 (by decide) ?_
  exact tX12_works_407  hn X hr fin  q22 m H locs ls hI (lv_sub hl [1, 0] rfl) hm
def fX12_works_270  (y0 : Int32) (m : Mem) : Option (Int32 × Mem) := (fX12_is y0 m).bind (fun q26 => fX12_works_407 q26 m)
set_option maxHeartbeats 4000000 in
set_option maxRecDepth 100000 in
theorem tX12_works_270  {l : Launch} {D : va_G} {ca : Nat → ClassId} {ad : Nat → Nat} {p : Program} {e : Env} {s : State} {mm : MethodId} {args : Array Value} {below : List Frame} {meth : Method} {c : Code}  (hn : HNr ca) (X : CX p s mm args meth c cX12_works 8 RX12 D ca ad (WA ca ad s.heap.size)) (hr : meth.sig.returnType = (some .boolean)) (fin : (Int32 × Mem))  : ∀ (y0 : Int32) (m : Mem) (H : Heap) (locs : List Loc) (ls : Array Slot), IW D ca ad (WA ca ad s.heap.size) s m H locs → lv_has ls 8 [(0, .ref (ad 99))] → fX12_works_270  y0 m = some fin → W p l e rmX12_works s mm args below meth c H locs 0 0 (MQ below (QI D ca ad s.heap.size fin.1 fin.2) args s 0 0 (WA ca ad s.heap.size)) (F0 mm 270 ls [.int y0]) := by
  have hx := X.1
  have hb := X.2.1
  intro y0 m H locs ls hI hl hm
  have hm : ((fX12_is y0 m).bind (fun q26 => fX12_works_407 q26 m)) = some fin := hm
  obtain ⟨q26, h27, hm⟩ := g_b hm
  refine backL X hI (runS X hI (ctX12_is y0  hn _ _ h27 _) msX12_323 ⟨rfl, rfl⟩ ⟨Nat.le_of_ble_eq_true rfl, Nat.le_of_ble_eq_true rfl⟩ rfl hl.1 rfl (Nat.le_of_ble_eq_true rfl) dX12_works_270) (fun H locs hI => ?_)
  refine lv_lstore (lv' := [(6, .long q26), (0, .ref (ad 99))]) hx hb dX12_works_273 hl (by decide) rfl (fun ls hl => ?_)
  refine lv_goto (tgt := 407) hx hb dX12_works_275 (by decide) ?_
  exact tX12_works_407  hn X hr fin  q26 m H locs ls hI (lv_sub hl [1, 0] rfl) hm
def fX12_works_310  (y0 : Int32) (m : Mem) : Option (Int32 × Mem) := (fX12_is y0 m).bind (fun q30 => fX12_works_407 q30 m)
set_option maxHeartbeats 4000000 in
set_option maxRecDepth 100000 in
theorem tX12_works_310  {l : Launch} {D : va_G} {ca : Nat → ClassId} {ad : Nat → Nat} {p : Program} {e : Env} {s : State} {mm : MethodId} {args : Array Value} {below : List Frame} {meth : Method} {c : Code}  (hn : HNr ca) (X : CX p s mm args meth c cX12_works 8 RX12 D ca ad (WA ca ad s.heap.size)) (hr : meth.sig.returnType = (some .boolean)) (fin : (Int32 × Mem))  : ∀ (y0 : Int32) (m : Mem) (H : Heap) (locs : List Loc) (ls : Array Slot), IW D ca ad (WA ca ad s.heap.size) s m H locs → lv_has ls 8 [(0, .ref (ad 99))] → fX12_works_310  y0 m = some fin → W p l e rmX12_works s mm args below meth c H locs 0 0 (MQ below (QI D ca ad s.heap.size fin.1 fin.2) args s 0 0 (WA ca ad s.heap.size)) (F0 mm 310 ls [.int y0]) := by
  have hx := X.1
  have hb := X.2.1
  intro y0 m H locs ls hI hl hm
  have hm : ((fX12_is y0 m).bind (fun q30 => fX12_works_407 q30 m)) = some fin := hm
  obtain ⟨q30, h31, hm⟩ := g_b hm
  refine backL X hI (runS X hI (ctX12_is y0  hn _ _ h31 _) msX12_323 ⟨rfl, rfl⟩ ⟨Nat.le_of_ble_eq_true rfl, Nat.le_of_ble_eq_true rfl⟩ rfl hl.1 rfl (Nat.le_of_ble_eq_true rfl) dX12_works_310) (fun H locs hI => ?_)
  refine lv_lstore (lv' := [(6, .long q30), (0, .ref (ad 99))]) hx hb dX12_works_313 hl (by decide) rfl (fun ls hl => ?_)
  refine lv_goto (tgt := 407) hx hb dX12_works_315 (by decide) ?_
  exact tX12_works_407  hn X hr fin  q30 m H locs ls hI (lv_sub hl [1, 0] rfl) hm
def fX12_works_350  (y0 : Int32) (m : Mem) : Option (Int32 × Mem) := (fX12_is y0 m).bind (fun q34 => fX12_works_407 q34 m)
set_option maxHeartbeats 4000000 in
set_option maxRecDepth 100000 in
theorem tX12_works_350  {l : Launch} {D : va_G} {ca : Nat → ClassId} {ad : Nat → Nat} {p : Program} {e : Env} {s : State} {mm : MethodId} {args : Array Value} {below : List Frame} {meth : Method} {c : Code}  (hn : HNr ca) (X : CX p s mm args meth c cX12_works 8 RX12 D ca ad (WA ca ad s.heap.size)) (hr : meth.sig.returnType = (some .boolean)) (fin : (Int32 × Mem))  : ∀ (y0 : Int32) (m : Mem) (H : Heap) (locs : List Loc) (ls : Array Slot), IW D ca ad (WA ca ad s.heap.size) s m H locs → lv_has ls 8 [(0, .ref (ad 99))] → fX12_works_350  y0 m = some fin → W p l e rmX12_works s mm args below meth c H locs 0 0 (MQ below (QI D ca ad s.heap.size fin.1 fin.2) args s 0 0 (WA ca ad s.heap.size)) (F0 mm 350 ls [.int y0]) := by
  have hx := X.1
  have hb := X.2.1
  intro y0 m H locs ls hI hl hm
  have hm : ((fX12_is y0 m).bind (fun q34 => fX12_works_407 q34 m)) = some fin := hm
  obtain ⟨q34, h35, hm⟩ := g_b hm
  refine backL X hI (runS X hI (ctX12_is y0  hn _ _ h35 _) msX12_323 ⟨rfl, rfl⟩ ⟨Nat.le_of_ble_eq_true rfl, Nat.le_of_ble_eq_true rfl⟩ rfl hl.1 rfl (Nat.le_of_ble_eq_true rfl) dX12_works_350) (fun H locs hI => ?_)
  refine lv_lstore (lv' := [(6, .long q34), (0, .ref (ad 99))]) hx hb dX12_works_353 hl (by decide) rfl (fun ls hl => ?_)
  refine lv_goto (tgt := 407) hx hb dX12_works_355 (by decide) ?_
  exact tX12_works_407  hn X hr fin  q34 m H locs ls hI (lv_sub hl [1, 0] rfl) hm
def fX12_works_330  (y0 : Int32) (m : Mem) : Option (Int32 × Mem) := (fX12_is y0 m).bind (fun q38 => fX12_works_407 q38 m)
set_option maxHeartbeats 4000000 in
set_option maxRecDepth 100000 in
theorem tX12_works_330  {l : Launch} {D : va_G} {ca : Nat → ClassId} {ad : Nat → Nat} {p : Program} {e : Env} {s : State} {mm : MethodId} {args : Array Value} {below : List Frame} {meth : Method} {c : Code}  (hn : HNr ca) (X : CX p s mm args meth c cX12_works 8 RX12 D ca ad (WA ca ad s.heap.size)) (hr : meth.sig.returnType = (some .boolean)) (fin : (Int32 × Mem))  : ∀ (y0 : Int32) (m : Mem) (H : Heap) (locs : List Loc) (ls : Array Slot), IW D ca ad (WA ca ad s.heap.size) s m H locs → lv_has ls 8 [(0, .ref (ad 99))] → fX12_works_330  y0 m = some fin → W p l e rmX12_works s mm args below meth c H locs 0 0 (MQ below (QI D ca ad s.heap.size fin.1 fin.2) args s 0 0 (WA ca ad s.heap.size)) (F0 mm 330 ls [.int y0]) := by
  have hx := X.1
  have hb := X.2.1
  intro y0 m H locs ls hI hl hm
  have hm : ((fX12_is y0 m).bind (fun q38 => fX12_works_407 q38 m)) = some fin := hm
  obtain ⟨q38, h39, hm⟩ := g_b hm
  refine backL X hI (runS X hI (ctX12_is y0  hn _ _ h39 _) msX12_323 ⟨rfl, rfl⟩ ⟨Nat.le_of_ble_eq_true rfl, Nat.le_of_ble_eq_true rfl⟩ rfl hl.1 rfl (Nat.le_of_ble_eq_true rfl) dX12_works_330) (fun H locs hI => ?_)
  refine lv_lstore (lv' := [(6, .long q38), (0, .ref (ad 99))]) hx hb dX12_works_333 hl (by decide) rfl (fun ls hl => ?_)
  refine lv_goto (tgt := 407) hx hb dX12_works_335 (by decide) ?_
  exact tX12_works_407  hn X hr fin  q38 m H locs ls hI (lv_sub hl [1, 0] rfl) hm
def fX12_works_376  (y0 : Int32) (m : Mem) : Option (Int32 × Mem) := (fX12_is y0 m).bind (fun q42 => fX12_works_407 q42 m)
set_option maxHeartbeats 4000000 in
set_option maxRecDepth 100000 in
theorem tX12_works_376  {l : Launch} {D : va_G} {ca : Nat → ClassId} {ad : Nat → Nat} {p : Program} {e : Env} {s : State} {mm : MethodId} {args : Array Value} {below : List Frame} {meth : Method} {c : Code}  (hn : HNr ca) (X : CX p s mm args meth c cX12_works 8 RX12 D ca ad (WA ca ad s.heap.size)) (hr : meth.sig.returnType = (some .boolean)) (fin : (Int32 × Mem))  : ∀ (y0 : Int32) (m : Mem) (H : Heap) (locs : List Loc) (ls : Array Slot), IW D ca ad (WA ca ad s.heap.size) s m H locs → lv_has ls 8 [(0, .ref (ad 99))] → fX12_works_376  y0 m = some fin → W p l e rmX12_works s mm args below meth c H locs 0 0 (MQ below (QI D ca ad s.heap.size fin.1 fin.2) args s 0 0 (WA ca ad s.heap.size)) (F0 mm 376 ls [.int y0]) := by
  have hx := X.1
  have hb := X.2.1
  intro y0 m H locs ls hI hl hm
  have hm : ((fX12_is y0 m).bind (fun q42 => fX12_works_407 q42 m)) = some fin := hm
  obtain ⟨q42, h43, hm⟩ := g_b hm
  refine backL X hI (runS X hI (ctX12_is y0  hn _ _ h43 _) msX12_323 ⟨rfl, rfl⟩ ⟨Nat.le_of_ble_eq_true rfl, Nat.le_of_ble_eq_true rfl⟩ rfl hl.1 rfl (Nat.le_of_ble_eq_true rfl) dX12_works_376) (fun H locs hI => ?_)
  refine lv_lstore (lv' := [(6, .long q42), (0, .ref (ad 99))]) hx hb dX12_works_379 hl (by decide) rfl (fun ls hl => ?_)
  refine lv_goto (tgt := 407) hx hb dX12_works_381 (by decide) ?_
  exact tX12_works_407  hn X hr fin  q42 m H locs ls hI (lv_sub hl [1, 0] rfl) hm
def fX12_works_375   (m : Mem) : Option (Int32 × Mem) := fX12_works_376 (0 : Int32) m
set_option maxHeartbeats 4000000 in
set_option maxRecDepth 100000 in
theorem tX12_works_375  {l : Launch} {D : va_G} {ca : Nat → ClassId} {ad : Nat → Nat} {p : Program} {e : Env} {s : State} {mm : MethodId} {args : Array Value} {below : List Frame} {meth : Method} {c : Code}  (hn : HNr ca) (X : CX p s mm args meth c cX12_works 8 RX12 D ca ad (WA ca ad s.heap.size)) (hr : meth.sig.returnType = (some .boolean)) (fin : (Int32 × Mem))  : ∀  (m : Mem) (H : Heap) (locs : List Loc) (ls : Array Slot), IW D ca ad (WA ca ad s.heap.size) s m H locs → lv_has ls 8 [(0, .ref (ad 99))] → fX12_works_375  m = some fin → W p l e rmX12_works s mm args below meth c H locs 0 0 (MQ below (QI D ca ad s.heap.size fin.1 fin.2) args s 0 0 (WA ca ad s.heap.size)) (F0 mm 375 ls []) := by
  have hx := X.1
  have hb := X.2.1
  intro m H locs ls hI hl hm
  have hm : (fX12_works_376 (0 : Int32) m) = some fin := hm
  refine lv_iconst (v := (0 : Int32)) hx hb dX12_works_375 (by decide) ?_
  exact tX12_works_376  hn X hr fin  (0 : Int32) m H locs ls hI (lv_sub hl [0] rfl) hm
def fX12_works_402  (y0 : Int32) (m : Mem) : Option (Int32 × Mem) := (fX12_is y0 m).bind (fun q46 => fX12_works_407 q46 m)
set_option maxHeartbeats 4000000 in
set_option maxRecDepth 100000 in
theorem tX12_works_402  {l : Launch} {D : va_G} {ca : Nat → ClassId} {ad : Nat → Nat} {p : Program} {e : Env} {s : State} {mm : MethodId} {args : Array Value} {below : List Frame} {meth : Method} {c : Code}  (hn : HNr ca) (X : CX p s mm args meth c cX12_works 8 RX12 D ca ad (WA ca ad s.heap.size)) (hr : meth.sig.returnType = (some .boolean)) (fin : (Int32 × Mem))  : ∀ (y0 : Int32) (m : Mem) (H : Heap) (locs : List Loc) (ls : Array Slot), IW D ca ad (WA ca ad s.heap.size) s m H locs → lv_has ls 8 [(0, .ref (ad 99))] → fX12_works_402  y0 m = some fin → W p l e rmX12_works s mm args below meth c H locs 0 0 (MQ below (QI D ca ad s.heap.size fin.1 fin.2) args s 0 0 (WA ca ad s.heap.size)) (F0 mm 402 ls [.int y0]) := by
  have hx := X.1
  have hb := X.2.1
  intro y0 m H locs ls hI hl hm
  have hm : ((fX12_is y0 m).bind (fun q46 => fX12_works_407 q46 m)) = some fin := hm
  obtain ⟨q46, h47, hm⟩ := g_b hm
  refine backL X hI (runS X hI (ctX12_is y0  hn _ _ h47 _) msX12_323 ⟨rfl, rfl⟩ ⟨Nat.le_of_ble_eq_true rfl, Nat.le_of_ble_eq_true rfl⟩ rfl hl.1 rfl (Nat.le_of_ble_eq_true rfl) dX12_works_402) (fun H locs hI => ?_)
  refine lv_lstore (lv' := [(6, .long q46), (0, .ref (ad 99))]) hx hb dX12_works_405 hl (by decide) rfl (fun ls hl => ?_)
  exact tX12_works_407  hn X hr fin  q46 m H locs ls hI (lv_sub hl [1, 0] rfl) hm
def fX12_works_397   (m : Mem) : Option (Int32 × Mem) := fX12_works_402 (1 : Int32) m
set_option maxHeartbeats 4000000 in
set_option maxRecDepth 100000 in
theorem tX12_works_397  {l : Launch} {D : va_G} {ca : Nat → ClassId} {ad : Nat → Nat} {p : Program} {e : Env} {s : State} {mm : MethodId} {args : Array Value} {below : List Frame} {meth : Method} {c : Code}  (hn : HNr ca) (X : CX p s mm args meth c cX12_works 8 RX12 D ca ad (WA ca ad s.heap.size)) (hr : meth.sig.returnType = (some .boolean)) (fin : (Int32 × Mem))  : ∀  (m : Mem) (H : Heap) (locs : List Loc) (ls : Array Slot), IW D ca ad (WA ca ad s.heap.size) s m H locs → lv_has ls 8 [(0, .ref (ad 99))] → fX12_works_397  m = some fin → W p l e rmX12_works s mm args below meth c H locs 0 0 (MQ below (QI D ca ad s.heap.size fin.1 fin.2) args s 0 0 (WA ca ad s.heap.size)) (F0 mm 397 ls []) := by
  have hx := X.1
  have hb := X.2.1
  intro m H locs ls hI hl hm
  have hm : (fX12_works_402 (1 : Int32) m) = some fin := hm
  refine lv_iconst (v := (1 : Int32)) hx hb dX12_works_397 (by decide) ?_
  refine lv_goto (tgt := 402) hx hb dX12_works_398 (by decide) ?_
  exact tX12_works_402  hn X hr fin  (1 : Int32) m H locs ls hI (lv_sub hl [0] rfl) hm
def fX12_works_40  (y0 : Int32) (y1 : Int32) (m : Mem) : Option (Int32 × Mem) := (fX12_is y0 m).bind (fun q50 => if y1 < 0 ∨ 64 ≤ y1.toNatClampNeg then none else (some ((1 : Int32), (mJ m 122 y1.toNatClampNeg q50))))
set_option maxHeartbeats 4000000 in
set_option maxRecDepth 100000 in
theorem tX12_works_40  {l : Launch} {D : va_G} {ca : Nat → ClassId} {ad : Nat → Nat} {p : Program} {e : Env} {s : State} {mm : MethodId} {args : Array Value} {below : List Frame} {meth : Method} {c : Code}  (hn : HNr ca) (X : CX p s mm args meth c cX12_works 8 RX12 D ca ad (WA ca ad s.heap.size)) (hr : meth.sig.returnType = (some .boolean)) (fin : (Int32 × Mem))  : ∀ (y0 : Int32) (y1 : Int32) (m : Mem) (H : Heap) (locs : List Loc) (ls : Array Slot), IW D ca ad (WA ca ad s.heap.size) s m H locs → lv_has ls 8 [] → fX12_works_40  y0 y1 m = some fin → W p l e rmX12_works s mm args below meth c H locs 0 0 (MQ below (QI D ca ad s.heap.size fin.1 fin.2) args s 0 0 (WA ca ad s.heap.size)) (F0 mm 40 ls [.int y0, .int y1, .ref (ad 122)]) := by
  have hx := X.1
  have hb := X.2.1
  intro y0 y1 m H locs ls hI hl hm
  have hm : ((fX12_is y0 m).bind (fun q50 => if y1 < 0 ∨ 64 ≤ y1.toNatClampNeg then none else (some ((1 : Int32), (mJ m 122 y1.toNatClampNeg q50))))) = some fin := hm
  obtain ⟨q50, h51, hm⟩ := g_b hm
  refine backL X hI (runS X hI (ctX12_is y0  hn _ _ h51 _) msX12_323 ⟨rfl, rfl⟩ ⟨Nat.le_of_ble_eq_true rfl, Nat.le_of_ble_eq_true rfl⟩ rfl hl.1 rfl (Nat.le_of_ble_eq_true rfl) dX12_works_40) (fun H locs hI => ?_)
  obtain ⟨g52, hm⟩ := g_no hm
  refine sL X hI (la_122 hn) g52 dX12_works_43 (fun H locs hI => ?_)
  refine lv_iconst (v := (1 : Int32)) hx hb dX12_works_44 (by decide) ?_
  exact rZ X hI hr (by decide) (g_p hm).1 (g_p hm).2 dX12_works_45
def fX12_works  (x1 : Int32) (m : Mem) : Option (Int32 × Mem) := if ((m.1 99 38) - (1 : Int32)) < 0 ∨ 64 ≤ ((m.1 99 38) - (1 : Int32)).toNatClampNeg then none else (if x1 = (260 : Int32) then (if (lg_cmp (m.2.1 122 ((m.1 99 38) - (1 : Int32)).toNatClampNeg) (0 : Int64)) = 0 then (fX12_works_40 (1 : Int32) ((m.1 99 38) - (1 : Int32)) m) else (fX12_works_40 (0 : Int32) ((m.1 99 38) - (1 : Int32)) m)) else (if ((m.1 99 38) - (2 : Int32)) < 0 ∨ 64 ≤ ((m.1 99 38) - (2 : Int32)).toNatClampNeg then none else (if x1 = (42 : Int32) then (if (lg_cmp (m.2.1 122 ((m.1 99 38) - (2 : Int32)).toNatClampNeg) (0 : Int64)) = 0 then (fX12_works_212 (m.2.1 122 ((m.1 99 38) - (1 : Int32)).toNatClampNeg) (m.2.1 122 ((m.1 99 38) - (2 : Int32)).toNatClampNeg) (mI m 99 38 ((m.1 99 38) - (1 : Int32)))) else (if (labs (m.2.1 122 ((m.1 99 38) - (2 : Int32)).toNatClampNeg)) = 0 then none else (if (lg_cmp (labs (m.2.1 122 ((m.1 99 38) - (1 : Int32)).toNatClampNeg)) ((1000000000000 : Int64) / (labs (m.2.1 122 ((m.1 99 38) - (2 : Int32)).toNatClampNeg)))) ≤ 0 then (fX12_works_212 (m.2.1 122 ((m.1 99 38) - (1 : Int32)).toNatClampNeg) (m.2.1 122 ((m.1 99 38) - (2 : Int32)).toNatClampNeg) (mI m 99 38 ((m.1 99 38) - (1 : Int32)))) else (some ((0 : Int32), (mI m 99 38 ((m.1 99 38) - (1 : Int32)))))))) else (if x1 = (43 : Int32) then (fX12_works_407 ((m.2.1 122 ((m.1 99 38) - (2 : Int32)).toNatClampNeg) + (m.2.1 122 ((m.1 99 38) - (1 : Int32)).toNatClampNeg)) (mI m 99 38 ((m.1 99 38) - (1 : Int32)))) else (if x1 = (45 : Int32) then (fX12_works_407 ((m.2.1 122 ((m.1 99 38) - (2 : Int32)).toNatClampNeg) - (m.2.1 122 ((m.1 99 38) - (1 : Int32)).toNatClampNeg)) (mI m 99 38 ((m.1 99 38) - (1 : Int32)))) else (if x1 = (47 : Int32) then (if (lg_cmp (m.2.1 122 ((m.1 99 38) - (1 : Int32)).toNatClampNeg) (0 : Int64)) = 0 then (some ((0 : Int32), (mI m 99 38 ((m.1 99 38) - (1 : Int32))))) else (if (m.2.1 122 ((m.1 99 38) - (1 : Int32)).toNatClampNeg) = 0 then none else (fX12_works_407 ((m.2.1 122 ((m.1 99 38) - (2 : Int32)).toNatClampNeg) / (m.2.1 122 ((m.1 99 38) - (1 : Int32)).toNatClampNeg)) (mI m 99 38 ((m.1 99 38) - (1 : Int32)))))) else (if x1 = (60 : Int32) then (if 0 ≤ (lg_cmp (m.2.1 122 ((m.1 99 38) - (2 : Int32)).toNatClampNeg) (m.2.1 122 ((m.1 99 38) - (1 : Int32)).toNatClampNeg)) then (fX12_works_250 (0 : Int32) (mI m 99 38 ((m.1 99 38) - (1 : Int32)))) else (fX12_works_250 (1 : Int32) (mI m 99 38 ((m.1 99 38) - (1 : Int32))))) else (if x1 = (61 : Int32) then (if (lg_cmp (m.2.1 122 ((m.1 99 38) - (2 : Int32)).toNatClampNeg) (m.2.1 122 ((m.1 99 38) - (1 : Int32)).toNatClampNeg)) = 0 then (fX12_works_290 (1 : Int32) (mI m 99 38 ((m.1 99 38) - (1 : Int32)))) else (fX12_works_290 (0 : Int32) (mI m 99 38 ((m.1 99 38) - (1 : Int32))))) else (if x1 = (62 : Int32) then (if (lg_cmp (m.2.1 122 ((m.1 99 38) - (2 : Int32)).toNatClampNeg) (m.2.1 122 ((m.1 99 38) - (1 : Int32)).toNatClampNeg)) ≤ 0 then (fX12_works_270 (0 : Int32) (mI m 99 38 ((m.1 99 38) - (1 : Int32)))) else (fX12_works_270 (1 : Int32) (mI m 99 38 ((m.1 99 38) - (1 : Int32))))) else (if x1 = (256 : Int32) then (if 0 < (lg_cmp (m.2.1 122 ((m.1 99 38) - (2 : Int32)).toNatClampNeg) (m.2.1 122 ((m.1 99 38) - (1 : Int32)).toNatClampNeg)) then (fX12_works_310 (0 : Int32) (mI m 99 38 ((m.1 99 38) - (1 : Int32)))) else (fX12_works_310 (1 : Int32) (mI m 99 38 ((m.1 99 38) - (1 : Int32))))) else (if x1 = (257 : Int32) then (if (lg_cmp (m.2.1 122 ((m.1 99 38) - (2 : Int32)).toNatClampNeg) (m.2.1 122 ((m.1 99 38) - (1 : Int32)).toNatClampNeg)) = 0 then (fX12_works_350 (0 : Int32) (mI m 99 38 ((m.1 99 38) - (1 : Int32)))) else (fX12_works_350 (1 : Int32) (mI m 99 38 ((m.1 99 38) - (1 : Int32))))) else (if x1 = (258 : Int32) then (if (lg_cmp (m.2.1 122 ((m.1 99 38) - (2 : Int32)).toNatClampNeg) (m.2.1 122 ((m.1 99 38) - (1 : Int32)).toNatClampNeg)) < 0 then (fX12_works_330 (0 : Int32) (mI m 99 38 ((m.1 99 38) - (1 : Int32)))) else (fX12_works_330 (1 : Int32) (mI m 99 38 ((m.1 99 38) - (1 : Int32))))) else (if x1 = (261 : Int32) then (if (lg_cmp (m.2.1 122 ((m.1 99 38) - (2 : Int32)).toNatClampNeg) (0 : Int64)) = 0 then (fX12_works_375 (mI m 99 38 ((m.1 99 38) - (1 : Int32)))) else (if (lg_cmp (m.2.1 122 ((m.1 99 38) - (1 : Int32)).toNatClampNeg) (0 : Int64)) = 0 then (fX12_works_375 (mI m 99 38 ((m.1 99 38) - (1 : Int32)))) else (fX12_works_376 (1 : Int32) (mI m 99 38 ((m.1 99 38) - (1 : Int32)))))) else (if (lg_cmp (m.2.1 122 ((m.1 99 38) - (2 : Int32)).toNatClampNeg) (0 : Int64)) = 0 then (if (lg_cmp (m.2.1 122 ((m.1 99 38) - (1 : Int32)).toNatClampNeg) (0 : Int64)) = 0 then (fX12_works_402 (0 : Int32) (mI m 99 38 ((m.1 99 38) - (1 : Int32)))) else (fX12_works_397 (mI m 99 38 ((m.1 99 38) - (1 : Int32))))) else (fX12_works_397 (mI m 99 38 ((m.1 99 38) - (1 : Int32))))))))))))))))))
set_option maxHeartbeats 4000000 in
set_option maxRecDepth 100000 in
theorem ctX12_works {l : Launch} {D : va_G} {ca : Nat → ClassId} {ad : Nat → Nat}  (x1 : Int32)  (hn : HNr ca) (m : Mem) (fin : (Int32 × Mem)) (hm : fX12_works x1 m = some fin) : CI l D ca ad yX12_works cwX12_works rmX12_works [.ref (ad 99), .int x1] m fin.1 fin.2 := by
  refine start (by decide) (Nat.le_of_ble_eq_true rfl) ?_
  intro p e s mm args below meth c H locs ls X hI hr hl
  have X : CX p s mm args meth c cX12_works 8 RX12 D ca ad (WA ca ad s.heap.size) := X
  have hx := X.1
  have hb := X.2.1
  have hl : lv_has ls 8 [(0, .ref (ad 99)), (1, .int x1)] := hl
  have hm : (if ((m.1 99 38) - (1 : Int32)) < 0 ∨ 64 ≤ ((m.1 99 38) - (1 : Int32)).toNatClampNeg then none else (if x1 = (260 : Int32) then (if (lg_cmp (m.2.1 122 ((m.1 99 38) - (1 : Int32)).toNatClampNeg) (0 : Int64)) = 0 then (fX12_works_40 (1 : Int32) ((m.1 99 38) - (1 : Int32)) m) else (fX12_works_40 (0 : Int32) ((m.1 99 38) - (1 : Int32)) m)) else (if ((m.1 99 38) - (2 : Int32)) < 0 ∨ 64 ≤ ((m.1 99 38) - (2 : Int32)).toNatClampNeg then none else (if x1 = (42 : Int32) then (if (lg_cmp (m.2.1 122 ((m.1 99 38) - (2 : Int32)).toNatClampNeg) (0 : Int64)) = 0 then (fX12_works_212 (m.2.1 122 ((m.1 99 38) - (1 : Int32)).toNatClampNeg) (m.2.1 122 ((m.1 99 38) - (2 : Int32)).toNatClampNeg) (mI m 99 38 ((m.1 99 38) - (1 : Int32)))) else (if (labs (m.2.1 122 ((m.1 99 38) - (2 : Int32)).toNatClampNeg)) = 0 then none else (if (lg_cmp (labs (m.2.1 122 ((m.1 99 38) - (1 : Int32)).toNatClampNeg)) ((1000000000000 : Int64) / (labs (m.2.1 122 ((m.1 99 38) - (2 : Int32)).toNatClampNeg)))) ≤ 0 then (fX12_works_212 (m.2.1 122 ((m.1 99 38) - (1 : Int32)).toNatClampNeg) (m.2.1 122 ((m.1 99 38) - (2 : Int32)).toNatClampNeg) (mI m 99 38 ((m.1 99 38) - (1 : Int32)))) else (some ((0 : Int32), (mI m 99 38 ((m.1 99 38) - (1 : Int32)))))))) else (if x1 = (43 : Int32) then (fX12_works_407 ((m.2.1 122 ((m.1 99 38) - (2 : Int32)).toNatClampNeg) + (m.2.1 122 ((m.1 99 38) - (1 : Int32)).toNatClampNeg)) (mI m 99 38 ((m.1 99 38) - (1 : Int32)))) else (if x1 = (45 : Int32) then (fX12_works_407 ((m.2.1 122 ((m.1 99 38) - (2 : Int32)).toNatClampNeg) - (m.2.1 122 ((m.1 99 38) - (1 : Int32)).toNatClampNeg)) (mI m 99 38 ((m.1 99 38) - (1 : Int32)))) else (if x1 = (47 : Int32) then (if (lg_cmp (m.2.1 122 ((m.1 99 38) - (1 : Int32)).toNatClampNeg) (0 : Int64)) = 0 then (some ((0 : Int32), (mI m 99 38 ((m.1 99 38) - (1 : Int32))))) else (if (m.2.1 122 ((m.1 99 38) - (1 : Int32)).toNatClampNeg) = 0 then none else (fX12_works_407 ((m.2.1 122 ((m.1 99 38) - (2 : Int32)).toNatClampNeg) / (m.2.1 122 ((m.1 99 38) - (1 : Int32)).toNatClampNeg)) (mI m 99 38 ((m.1 99 38) - (1 : Int32)))))) else (if x1 = (60 : Int32) then (if 0 ≤ (lg_cmp (m.2.1 122 ((m.1 99 38) - (2 : Int32)).toNatClampNeg) (m.2.1 122 ((m.1 99 38) - (1 : Int32)).toNatClampNeg)) then (fX12_works_250 (0 : Int32) (mI m 99 38 ((m.1 99 38) - (1 : Int32)))) else (fX12_works_250 (1 : Int32) (mI m 99 38 ((m.1 99 38) - (1 : Int32))))) else (if x1 = (61 : Int32) then (if (lg_cmp (m.2.1 122 ((m.1 99 38) - (2 : Int32)).toNatClampNeg) (m.2.1 122 ((m.1 99 38) - (1 : Int32)).toNatClampNeg)) = 0 then (fX12_works_290 (1 : Int32) (mI m 99 38 ((m.1 99 38) - (1 : Int32)))) else (fX12_works_290 (0 : Int32) (mI m 99 38 ((m.1 99 38) - (1 : Int32))))) else (if x1 = (62 : Int32) then (if (lg_cmp (m.2.1 122 ((m.1 99 38) - (2 : Int32)).toNatClampNeg) (m.2.1 122 ((m.1 99 38) - (1 : Int32)).toNatClampNeg)) ≤ 0 then (fX12_works_270 (0 : Int32) (mI m 99 38 ((m.1 99 38) - (1 : Int32)))) else (fX12_works_270 (1 : Int32) (mI m 99 38 ((m.1 99 38) - (1 : Int32))))) else (if x1 = (256 : Int32) then (if 0 < (lg_cmp (m.2.1 122 ((m.1 99 38) - (2 : Int32)).toNatClampNeg) (m.2.1 122 ((m.1 99 38) - (1 : Int32)).toNatClampNeg)) then (fX12_works_310 (0 : Int32) (mI m 99 38 ((m.1 99 38) - (1 : Int32)))) else (fX12_works_310 (1 : Int32) (mI m 99 38 ((m.1 99 38) - (1 : Int32))))) else (if x1 = (257 : Int32) then (if (lg_cmp (m.2.1 122 ((m.1 99 38) - (2 : Int32)).toNatClampNeg) (m.2.1 122 ((m.1 99 38) - (1 : Int32)).toNatClampNeg)) = 0 then (fX12_works_350 (0 : Int32) (mI m 99 38 ((m.1 99 38) - (1 : Int32)))) else (fX12_works_350 (1 : Int32) (mI m 99 38 ((m.1 99 38) - (1 : Int32))))) else (if x1 = (258 : Int32) then (if (lg_cmp (m.2.1 122 ((m.1 99 38) - (2 : Int32)).toNatClampNeg) (m.2.1 122 ((m.1 99 38) - (1 : Int32)).toNatClampNeg)) < 0 then (fX12_works_330 (0 : Int32) (mI m 99 38 ((m.1 99 38) - (1 : Int32)))) else (fX12_works_330 (1 : Int32) (mI m 99 38 ((m.1 99 38) - (1 : Int32))))) else (if x1 = (261 : Int32) then (if (lg_cmp (m.2.1 122 ((m.1 99 38) - (2 : Int32)).toNatClampNeg) (0 : Int64)) = 0 then (fX12_works_375 (mI m 99 38 ((m.1 99 38) - (1 : Int32)))) else (if (lg_cmp (m.2.1 122 ((m.1 99 38) - (1 : Int32)).toNatClampNeg) (0 : Int64)) = 0 then (fX12_works_375 (mI m 99 38 ((m.1 99 38) - (1 : Int32)))) else (fX12_works_376 (1 : Int32) (mI m 99 38 ((m.1 99 38) - (1 : Int32)))))) else (if (lg_cmp (m.2.1 122 ((m.1 99 38) - (2 : Int32)).toNatClampNeg) (0 : Int64)) = 0 then (if (lg_cmp (m.2.1 122 ((m.1 99 38) - (1 : Int32)).toNatClampNeg) (0 : Int64)) = 0 then (fX12_works_402 (0 : Int32) (mI m 99 38 ((m.1 99 38) - (1 : Int32)))) else (fX12_works_397 (mI m 99 38 ((m.1 99 38) - (1 : Int32))))) else (fX12_works_397 (mI m 99 38 ((m.1 99 38) - (1 : Int32))))))))))))))))))) = some fin := hm
  refine lv_aload_n hx hb dX12_works_0 rfl (lv_at hl 0 rfl) ?_
  refine gR X hI fdX12_81 (la_99 hn) rf12_37 dX12_works_1 ?_
  refine lv_aload_n hx hb dX12_works_4 rfl (lv_at hl 0 rfl) ?_
  refine gI X hI fdX12_320 (la_99 hn) dX12_works_5 ?_
  refine lv_iconst (v := (1 : Int32)) hx hb dX12_works_8 (by decide) ?_
  refine lv_isub hx hb dX12_works_9 ?_
  obtain ⟨g1, hm⟩ := g_no hm
  refine aL X hI (la_122 hn) g1 dX12_works_10 ?_
  refine lv_lstore_n (lv' := [(2, .long (m.2.1 122 ((m.1 99 38) - (1 : Int32)).toNatClampNeg)), (0, .ref (ad 99)), (1, .int x1)]) hx hb dX12_works_11 rfl hl (by decide) rfl (fun ls hl => ?_)
  refine lv_iload_n hx hb dX12_works_12 rfl (lv_at hl 2 rfl) ?_
  refine lv_sipush (v := (260 : Int32)) hx hb dX12_works_13 (by decide) ?_
  refine lv_icmp_ne (tgt := 46) hx hb dX12_works_16 (by decide) (fun c2 => ?_) (fun c2 => ?_)
  · have hm := g_f c2 hm
    refine lv_aload_n hx hb dX12_works_46 rfl (lv_at hl 1 rfl) ?_
    refine gR X hI fdX12_81 (la_99 hn) rf12_37 dX12_works_47 ?_
    refine lv_aload_n hx hb dX12_works_50 rfl (lv_at hl 1 rfl) ?_
    refine gI X hI fdX12_320 (la_99 hn) dX12_works_51 ?_
    refine lv_iconst (v := (2 : Int32)) hx hb dX12_works_54 (by decide) ?_
    refine lv_isub hx hb dX12_works_55 ?_
    obtain ⟨g3, hm⟩ := g_no hm
    refine aL X hI (la_122 hn) g3 dX12_works_56 ?_
    refine lv_lstore (lv' := [(4, .long (m.2.1 122 ((m.1 99 38) - (2 : Int32)).toNatClampNeg)), (2, .long (m.2.1 122 ((m.1 99 38) - (1 : Int32)).toNatClampNeg)), (0, .ref (ad 99)), (1, .int x1)]) hx hb dX12_works_57 hl (by decide) rfl (fun ls hl => ?_)
    refine lv_aload_n hx hb dX12_works_59 rfl (lv_at hl 2 rfl) ?_
    refine lv_dup hx hb dX12_works_60 rfl ?_
    refine gI X hI fdX12_320 (la_99 hn) dX12_works_61 ?_
    refine lv_iconst (v := (1 : Int32)) hx hb dX12_works_64 (by decide) ?_
    refine lv_isub hx hb dX12_works_65 ?_
    refine pI X hI fpX12_320 (la_99 hn) dX12_works_66 (fun H locs hI => ?_)
    refine lv_iload_n hx hb dX12_works_69 rfl (lv_at hl 3 rfl) ?_
    by_cases c4 : x1 = (42 : Int32)
    · have hm := g_t c4 hm
      refine lv_lookup (tgt := 186) hx hb dX12_works_70 (by decide) (off := 116) (by rw [c4]; decide) (by decide) ?_
      refine lv_lload hx hb dX12_works_186 (lv_at hl 0 rfl) ?_
      refine lv_lconst (v := (0 : Int64)) hx hb dX12_works_188 (by decide) ?_
      refine W.lcmp hx hb dX12_works_189 ?_
      refine lv_if_eq (tgt := 212) hx hb dX12_works_190 (by decide) (fun c5 => ?_) (fun c5 => ?_)
      · have hm := g_t c5 hm
        exact tX12_works_212  hn X hr fin  (m.2.1 122 ((m.1 99 38) - (1 : Int32)).toNatClampNeg) (m.2.1 122 ((m.1 99 38) - (2 : Int32)).toNatClampNeg) (mI m 99 38 ((m.1 99 38) - (1 : Int32))) H locs ls hI (lv_sub hl [2, 1, 0] rfl) hm
      · have hm := g_f c5 hm
        refine lv_lload_n hx hb dX12_works_193 rfl (lv_at hl 1 rfl) ?_
        refine kAbsL X mpX12_327 hl.1 (Nat.le_of_ble_eq_true rfl) (Nat.le_of_ble_eq_true rfl) dX12_works_194 ?_
        refine lv_ldc2 hx hb X.2.2.2.1 (X.2.2.2.2.1 _ kcX12_333) dX12_works_197 ?_
        refine lv_lload hx hb dX12_works_200 (lv_at hl 0 rfl) ?_
        refine kAbsL X mpX12_327 hl.1 (Nat.le_of_ble_eq_true rfl) (Nat.le_of_ble_eq_true rfl) dX12_works_202 ?_
        obtain ⟨g9, hm⟩ := g_no hm
        refine lv_ldiv hx hb dX12_works_205 g9 ?_
        refine W.lcmp hx hb dX12_works_206 ?_
        refine lv_if_le (tgt := 212) hx hb dX12_works_207 (by decide) (fun c10 => ?_) (fun c10 => ?_)
        · have hm := g_t c10 hm
          exact tX12_works_212  hn X hr fin  (m.2.1 122 ((m.1 99 38) - (1 : Int32)).toNatClampNeg) (m.2.1 122 ((m.1 99 38) - (2 : Int32)).toNatClampNeg) (mI m 99 38 ((m.1 99 38) - (1 : Int32))) H locs ls hI (lv_sub hl [2, 1, 0] rfl) hm
        · have hm := g_f c10 hm
          refine lv_iconst (v := (0 : Int32)) hx hb dX12_works_210 (by decide) ?_
          exact rZ X hI hr (by decide) (g_p hm).1 (g_p hm).2 dX12_works_211
    · have hm := g_f c4 hm
      by_cases c11 : x1 = (43 : Int32)
      · have hm := g_t c11 hm
        refine lv_lookup (tgt := 168) hx hb dX12_works_70 (by decide) (off := 98) (by rw [c11]; decide) (by decide) ?_
        refine lv_lload hx hb dX12_works_168 (lv_at hl 0 rfl) ?_
        refine lv_lload_n hx hb dX12_works_170 rfl (lv_at hl 1 rfl) ?_
        refine lv_ladd hx hb dX12_works_171 ?_
        refine lv_lstore (lv' := [(6, .long ((m.2.1 122 ((m.1 99 38) - (2 : Int32)).toNatClampNeg) + (m.2.1 122 ((m.1 99 38) - (1 : Int32)).toNatClampNeg))), (4, .long (m.2.1 122 ((m.1 99 38) - (2 : Int32)).toNatClampNeg)), (2, .long (m.2.1 122 ((m.1 99 38) - (1 : Int32)).toNatClampNeg)), (0, .ref (ad 99)), (1, .int x1)]) hx hb dX12_works_172 hl (by decide) rfl (fun ls hl => ?_)
        refine lv_goto (tgt := 407) hx hb dX12_works_174 (by decide) ?_
        exact tX12_works_407  hn X hr fin  ((m.2.1 122 ((m.1 99 38) - (2 : Int32)).toNatClampNeg) + (m.2.1 122 ((m.1 99 38) - (1 : Int32)).toNatClampNeg)) (mI m 99 38 ((m.1 99 38) - (1 : Int32))) H locs ls hI (lv_sub hl [3, 0] rfl) hm
      · have hm := g_f c11 hm
        by_cases c12 : x1 = (45 : Int32)
        · have hm := g_t c12 hm
          refine lv_lookup (tgt := 177) hx hb dX12_works_70 (by decide) (off := 107) (by rw [c12]; decide) (by decide) ?_
          refine lv_lload hx hb dX12_works_177 (lv_at hl 0 rfl) ?_
          refine lv_lload_n hx hb dX12_works_179 rfl (lv_at hl 1 rfl) ?_
          refine lv_lsub hx hb dX12_works_180 ?_
          refine lv_lstore (lv' := [(6, .long ((m.2.1 122 ((m.1 99 38) - (2 : Int32)).toNatClampNeg) - (m.2.1 122 ((m.1 99 38) - (1 : Int32)).toNatClampNeg))), (4, .long (m.2.1 122 ((m.1 99 38) - (2 : Int32)).toNatClampNeg)), (2, .long (m.2.1 122 ((m.1 99 38) - (1 : Int32)).toNatClampNeg)), (0, .ref (ad 99)), (1, .int x1)]) hx hb dX12_works_181 hl (by decide) rfl (fun ls hl => ?_)
          refine lv_goto (tgt := 407) hx hb dX12_works_183 (by decide) ?_
          exact tX12_works_407  hn X hr fin  ((m.2.1 122 ((m.1 99 38) - (2 : Int32)).toNatClampNeg) - (m.2.1 122 ((m.1 99 38) - (1 : Int32)).toNatClampNeg)) (mI m 99 38 ((m.1 99 38) - (1 : Int32))) H locs ls hI (lv_sub hl [3, 0] rfl) hm
        · have hm := g_f c12 hm
          by_cases c13 : x1 = (47 : Int32)
          · have hm := g_t c13 hm
            refine lv_lookup (tgt := 221) hx hb dX12_works_70 (by decide) (off := 151) (by rw [c13]; decide) (by decide) ?_
            refine lv_lload_n hx hb dX12_works_221 rfl (lv_at hl 1 rfl) ?_
            refine lv_lconst (v := (0 : Int64)) hx hb dX12_works_222 (by decide) ?_
            refine W.lcmp hx hb dX12_works_223 ?_
            refine lv_if_ne (tgt := 229) hx hb dX12_works_224 (by decide) (fun c14 => ?_) (fun c14 => ?_)
            · have hm := g_f c14 hm
              refine lv_lload hx hb dX12_works_229 (lv_at hl 0 rfl) ?_
              refine lv_lload_n hx hb dX12_works_231 rfl (lv_at hl 1 rfl) ?_
              obtain ⟨g15, hm⟩ := g_no hm
              refine lv_ldiv hx hb dX12_works_232 g15 ?_
              refine lv_lstore (lv' := [(6, .long ((m.2.1 122 ((m.1 99 38) - (2 : Int32)).toNatClampNeg) / (m.2.1 122 ((m.1 99 38) - (1 : Int32)).toNatClampNeg))), (4, .long (m.2.1 122 ((m.1 99 38) - (2 : Int32)).toNatClampNeg)), (2, .long (m.2.1 122 ((m.1 99 38) - (1 : Int32)).toNatClampNeg)), (0, .ref (ad 99)), (1, .int x1)]) hx hb dX12_works_233 hl (by decide) rfl (fun ls hl => ?_)
              refine lv_goto (tgt := 407) hx hb dX12_works_235 (by decide) ?_
              exact tX12_works_407  hn X hr fin  ((m.2.1 122 ((m.1 99 38) - (2 : Int32)).toNatClampNeg) / (m.2.1 122 ((m.1 99 38) - (1 : Int32)).toNatClampNeg)) (mI m 99 38 ((m.1 99 38) - (1 : Int32))) H locs ls hI (lv_sub hl [3, 0] rfl) hm
            · have hm := g_t c14 hm
              refine lv_iconst (v := (0 : Int32)) hx hb dX12_works_227 (by decide) ?_
              exact rZ X hI hr (by decide) (g_p hm).1 (g_p hm).2 dX12_works_228
          · have hm := g_f c13 hm
            by_cases c16 : x1 = (60 : Int32)
            · have hm := g_t c16 hm
              refine lv_lookup (tgt := 238) hx hb dX12_works_70 (by decide) (off := 168) (by rw [c16]; decide) (by decide) ?_
              refine lv_lload hx hb dX12_works_238 (lv_at hl 0 rfl) ?_
              refine lv_lload_n hx hb dX12_works_240 rfl (lv_at hl 1 rfl) ?_
              refine W.lcmp hx hb dX12_works_241 ?_
              refine lv_if_ge (tgt := 249) hx hb dX12_works_242 (by decide) (fun c17 => ?_) (fun c17 => ?_)
              · have hm := g_t c17 hm
                refine lv_iconst (v := (0 : Int32)) hx hb dX12_works_249 (by decide) ?_
                exact tX12_works_250  hn X hr fin  (0 : Int32) (mI m 99 38 ((m.1 99 38) - (1 : Int32))) H locs ls hI (lv_sub hl [2] rfl) hm
              · have hm := g_f c17 hm
                refine lv_iconst (v := (1 : Int32)) hx hb dX12_works_245 (by decide) ?_
                refine lv_goto (tgt := 250) hx hb dX12_works_246 (by decide) ?_
                exact tX12_works_250  hn X hr fin  (1 : Int32) (mI m 99 38 ((m.1 99 38) - (1 : Int32))) H locs ls hI (lv_sub hl [2] rfl) hm
            · have hm := g_f c16 hm
              by_cases c20 : x1 = (61 : Int32)
              · have hm := g_t c20 hm
                refine lv_lookup (tgt := 278) hx hb dX12_works_70 (by decide) (off := 208) (by rw [c20]; decide) (by decide) ?_
                refine lv_lload hx hb dX12_works_278 (lv_at hl 0 rfl) ?_
                refine lv_lload_n hx hb dX12_works_280 rfl (lv_at hl 1 rfl) ?_
                refine W.lcmp hx hb dX12_works_281 ?_
                refine lv_if_ne (tgt := 289) hx hb dX12_works_282 (by decide) (fun c21 => ?_) (fun c21 => ?_)
                · have hm := g_f c21 hm
                  refine lv_iconst (v := (0 : Int32)) hx hb dX12_works_289 (by decide) ?_
                  exact tX12_works_290  hn X hr fin  (0 : Int32) (mI m 99 38 ((m.1 99 38) - (1 : Int32))) H locs ls hI (lv_sub hl [2] rfl) hm
                · have hm := g_t c21 hm
                  refine lv_iconst (v := (1 : Int32)) hx hb dX12_works_285 (by decide) ?_
                  refine lv_goto (tgt := 290) hx hb dX12_works_286 (by decide) ?_
                  exact tX12_works_290  hn X hr fin  (1 : Int32) (mI m 99 38 ((m.1 99 38) - (1 : Int32))) H locs ls hI (lv_sub hl [2] rfl) hm
              · have hm := g_f c20 hm
                by_cases c24 : x1 = (62 : Int32)
                · have hm := g_t c24 hm
                  refine lv_lookup (tgt := 258) hx hb dX12_works_70 (by decide) (off := 188) (by rw [c24]; decide) (by decide) ?_
                  refine lv_lload hx hb dX12_works_258 (lv_at hl 0 rfl) ?_
                  refine lv_lload_n hx hb dX12_works_260 rfl (lv_at hl 1 rfl) ?_
                  refine W.lcmp hx hb dX12_works_261 ?_
                  refine lv_if_le (tgt := 269) hx hb dX12_works_262 (by decide) (fun c25 => ?_) (fun c25 => ?_)
                  · have hm := g_t c25 hm
                    refine lv_iconst (v := (0 : Int32)) hx hb dX12_works_269 (by decide) ?_
                    exact tX12_works_270  hn X hr fin  (0 : Int32) (mI m 99 38 ((m.1 99 38) - (1 : Int32))) H locs ls hI (lv_sub hl [2] rfl) hm
                  · have hm := g_f c25 hm
                    refine lv_iconst (v := (1 : Int32)) hx hb dX12_works_265 (by decide) ?_
                    refine lv_goto (tgt := 270) hx hb dX12_works_266 (by decide) ?_
                    exact tX12_works_270  hn X hr fin  (1 : Int32) (mI m 99 38 ((m.1 99 38) - (1 : Int32))) H locs ls hI (lv_sub hl [2] rfl) hm
                · have hm := g_f c24 hm
                  by_cases c28 : x1 = (256 : Int32)
                  · have hm := g_t c28 hm
                    refine lv_lookup (tgt := 298) hx hb dX12_works_70 (by decide) (off := 228) (by rw [c28]; decide) (by decide) ?_
                    refine lv_lload hx hb dX12_works_298 (lv_at hl 0 rfl) ?_
                    refine lv_lload_n hx hb dX12_works_300 rfl (lv_at hl 1 rfl) ?_
                    refine W.lcmp hx hb dX12_works_301 ?_
                    refine lv_if_gt (tgt := 309) hx hb dX12_works_302 (by decide) (fun c29 => ?_) (fun c29 => ?_)
                    · have hm := g_t c29 hm
                      refine lv_iconst (v := (0 : Int32)) hx hb dX12_works_309 (by decide) ?_
                      exact tX12_works_310  hn X hr fin  (0 : Int32) (mI m 99 38 ((m.1 99 38) - (1 : Int32))) H locs ls hI (lv_sub hl [2] rfl) hm
                    · have hm := g_f c29 hm
                      refine lv_iconst (v := (1 : Int32)) hx hb dX12_works_305 (by decide) ?_
                      refine lv_goto (tgt := 310) hx hb dX12_works_306 (by decide) ?_
                      exact tX12_works_310  hn X hr fin  (1 : Int32) (mI m 99 38 ((m.1 99 38) - (1 : Int32))) H locs ls hI (lv_sub hl [2] rfl) hm
                  · have hm := g_f c28 hm
                    by_cases c32 : x1 = (257 : Int32)
                    · have hm := g_t c32 hm
                      refine lv_lookup (tgt := 338) hx hb dX12_works_70 (by decide) (off := 268) (by rw [c32]; decide) (by decide) ?_
                      refine lv_lload hx hb dX12_works_338 (lv_at hl 0 rfl) ?_
                      refine lv_lload_n hx hb dX12_works_340 rfl (lv_at hl 1 rfl) ?_
                      refine W.lcmp hx hb dX12_works_341 ?_
                      refine lv_if_eq (tgt := 349) hx hb dX12_works_342 (by decide) (fun c33 => ?_) (fun c33 => ?_)
                      · have hm := g_t c33 hm
                        refine lv_iconst (v := (0 : Int32)) hx hb dX12_works_349 (by decide) ?_
                        exact tX12_works_350  hn X hr fin  (0 : Int32) (mI m 99 38 ((m.1 99 38) - (1 : Int32))) H locs ls hI (lv_sub hl [2] rfl) hm
                      · have hm := g_f c33 hm
                        refine lv_iconst (v := (1 : Int32)) hx hb dX12_works_345 (by decide) ?_
                        refine lv_goto (tgt := 350) hx hb dX12_works_346 (by decide) ?_
                        exact tX12_works_350  hn X hr fin  (1 : Int32) (mI m 99 38 ((m.1 99 38) - (1 : Int32))) H locs ls hI (lv_sub hl [2] rfl) hm
                    · have hm := g_f c32 hm
                      by_cases c36 : x1 = (258 : Int32)
                      · have hm := g_t c36 hm
                        refine lv_lookup (tgt := 318) hx hb dX12_works_70 (by decide) (off := 248) (by rw [c36]; decide) (by decide) ?_
                        refine lv_lload hx hb dX12_works_318 (lv_at hl 0 rfl) ?_
                        refine lv_lload_n hx hb dX12_works_320 rfl (lv_at hl 1 rfl) ?_
                        refine W.lcmp hx hb dX12_works_321 ?_
                        refine lv_if_lt (tgt := 329) hx hb dX12_works_322 (by decide) (fun c37 => ?_) (fun c37 => ?_)
                        · have hm := g_t c37 hm
                          refine lv_iconst (v := (0 : Int32)) hx hb dX12_works_329 (by decide) ?_
                          exact tX12_works_330  hn X hr fin  (0 : Int32) (mI m 99 38 ((m.1 99 38) - (1 : Int32))) H locs ls hI (lv_sub hl [2] rfl) hm
                        · have hm := g_f c37 hm
                          refine lv_iconst (v := (1 : Int32)) hx hb dX12_works_325 (by decide) ?_
                          refine lv_goto (tgt := 330) hx hb dX12_works_326 (by decide) ?_
                          exact tX12_works_330  hn X hr fin  (1 : Int32) (mI m 99 38 ((m.1 99 38) - (1 : Int32))) H locs ls hI (lv_sub hl [2] rfl) hm
                      · have hm := g_f c36 hm
                        by_cases c40 : x1 = (261 : Int32)
                        · have hm := g_t c40 hm
                          refine lv_lookup (tgt := 358) hx hb dX12_works_70 (by decide) (off := 288) (by rw [c40]; decide) (by decide) ?_
                          refine lv_lload hx hb dX12_works_358 (lv_at hl 0 rfl) ?_
                          refine lv_lconst (v := (0 : Int64)) hx hb dX12_works_360 (by decide) ?_
                          refine W.lcmp hx hb dX12_works_361 ?_
                          refine lv_if_eq (tgt := 375) hx hb dX12_works_362 (by decide) (fun c41 => ?_) (fun c41 => ?_)
                          · have hm := g_t c41 hm
                            exact tX12_works_375  hn X hr fin  (mI m 99 38 ((m.1 99 38) - (1 : Int32))) H locs ls hI (lv_sub hl [2] rfl) hm
                          · have hm := g_f c41 hm
                            refine lv_lload_n hx hb dX12_works_365 rfl (lv_at hl 1 rfl) ?_
                            refine lv_lconst (v := (0 : Int64)) hx hb dX12_works_366 (by decide) ?_
                            refine W.lcmp hx hb dX12_works_367 ?_
                            refine lv_if_eq (tgt := 375) hx hb dX12_works_368 (by decide) (fun c44 => ?_) (fun c44 => ?_)
                            · have hm := g_t c44 hm
                              exact tX12_works_375  hn X hr fin  (mI m 99 38 ((m.1 99 38) - (1 : Int32))) H locs ls hI (lv_sub hl [2] rfl) hm
                            · have hm := g_f c44 hm
                              refine lv_iconst (v := (1 : Int32)) hx hb dX12_works_371 (by decide) ?_
                              refine lv_goto (tgt := 376) hx hb dX12_works_372 (by decide) ?_
                              exact tX12_works_376  hn X hr fin  (1 : Int32) (mI m 99 38 ((m.1 99 38) - (1 : Int32))) H locs ls hI (lv_sub hl [2] rfl) hm
                        · have hm := g_f c40 hm
                          refine lv_lookup (tgt := 384) hx hb dX12_works_70 (by decide) (off := 314) (by rw [lv_osw c4 (by decide), lv_osw c11 (by decide), lv_osw c12 (by decide), lv_osw c13 (by decide), lv_osw c16 (by decide), lv_osw c20 (by decide), lv_osw c24 (by decide), lv_osw c28 (by decide), lv_osw c32 (by decide), lv_osw c36 (by decide), lv_osw c40 (by decide)]; rfl) (by decide) ?_
                          refine lv_lload hx hb dX12_works_384 (lv_at hl 0 rfl) ?_
                          refine lv_lconst (v := (0 : Int64)) hx hb dX12_works_386 (by decide) ?_
                          refine W.lcmp hx hb dX12_works_387 ?_
                          refine lv_if_ne (tgt := 397) hx hb dX12_works_388 (by decide) (fun c45 => ?_) (fun c45 => ?_)
                          · have hm := g_f c45 hm
                            exact tX12_works_397  hn X hr fin  (mI m 99 38 ((m.1 99 38) - (1 : Int32))) H locs ls hI (lv_sub hl [2] rfl) hm
                          · have hm := g_t c45 hm
                            refine lv_lload_n hx hb dX12_works_391 rfl (lv_at hl 1 rfl) ?_
                            refine lv_lconst (v := (0 : Int64)) hx hb dX12_works_392 (by decide) ?_
                            refine W.lcmp hx hb dX12_works_393 ?_
                            refine lv_if_eq (tgt := 401) hx hb dX12_works_394 (by decide) (fun c48 => ?_) (fun c48 => ?_)
                            · have hm := g_t c48 hm
                              refine lv_iconst (v := (0 : Int32)) hx hb dX12_works_401 (by decide) ?_
                              exact tX12_works_402  hn X hr fin  (0 : Int32) (mI m 99 38 ((m.1 99 38) - (1 : Int32))) H locs ls hI (lv_sub hl [2] rfl) hm
                            · have hm := g_f c48 hm
                              exact tX12_works_397  hn X hr fin  (mI m 99 38 ((m.1 99 38) - (1 : Int32))) H locs ls hI (lv_sub hl [2] rfl) hm
  · have hm := g_t c2 hm
    refine lv_aload_n hx hb dX12_works_19 rfl (lv_at hl 1 rfl) ?_
    refine gR X hI fdX12_81 (la_99 hn) rf12_37 dX12_works_20 ?_
    refine lv_aload_n hx hb dX12_works_23 rfl (lv_at hl 1 rfl) ?_
    refine gI X hI fdX12_320 (la_99 hn) dX12_works_24 ?_
    refine lv_iconst (v := (1 : Int32)) hx hb dX12_works_27 (by decide) ?_
    refine lv_isub hx hb dX12_works_28 ?_
    refine lv_lload_n hx hb dX12_works_29 rfl (lv_at hl 0 rfl) ?_
    refine lv_lconst (v := (0 : Int64)) hx hb dX12_works_30 (by decide) ?_
    refine W.lcmp hx hb dX12_works_31 ?_
    refine lv_if_ne (tgt := 39) hx hb dX12_works_32 (by decide) (fun c49 => ?_) (fun c49 => ?_)
    · have hm := g_f c49 hm
      refine lv_iconst (v := (0 : Int32)) hx hb dX12_works_39 (by decide) ?_
      exact tX12_works_40  hn X hr fin  (0 : Int32) ((m.1 99 38) - (1 : Int32)) m H locs ls hI (lv_sub hl [] rfl) hm
    · have hm := g_t c49 hm
      refine lv_iconst (v := (1 : Int32)) hx hb dX12_works_35 (by decide) ?_
      refine lv_goto (tgt := 40) hx hb dX12_works_36 (by decide) ?_
      exact tX12_works_40  hn X hr fin  (1 : Int32) ((m.1 99 38) - (1 : Int32)) m H locs ls hI (lv_sub hl [] rfl) hm
abbrev rmX12_goes : Room := { frames := 2, cells := 0, slots := 0, locals := 51 }
def fX12_goes_85 (N : Nat) (k12 : Int32 → Int32 → Mem → Option (Int32 × Mem)) (x1 : Int32) (x2 : Int32) (y0 : Int64) (y1 : Int32) (m : Mem) : Option (Int32 × Mem) := if y1 < 0 ∨ 64 ≤ y1.toNatClampNeg then none else (k12 x1 (x2 + (1 : Int32)) (mI (mJ m 122 y1.toNatClampNeg y0) 99 38 (((mJ m 122 y1.toNatClampNeg y0).1 99 38) + (1 : Int32))))
set_option maxHeartbeats 4000000 in
set_option maxRecDepth 100000 in
theorem tX12_goes_85 (N : Nat) {l : Launch} {D : va_G} {ca : Nat → ClassId} {ad : Nat → Nat} {p : Program} {e : Env} {s : State} {mm : MethodId} {args : Array Value} {below : List Frame} {meth : Method} {c : Code} {k12 : Int32 → Int32 → Mem → Option (Int32 × Mem)} (hn : HNr ca) (X : CX p s mm args meth c cX12_goes 3 RX12 D ca ad (WA ca ad s.heap.size)) (hr : meth.sig.returnType = (some .boolean)) (fin : (Int32 × Mem)) (hk12 : ∀ (x1 : Int32) (x2 : Int32) (m : Mem) (H : Heap) (locs : List Loc) (ls : Array Slot), IW D ca ad (WA ca ad s.heap.size) s m H locs → lv_has ls 3 [(0, .ref (ad 99)), (1, .int x1), (2, .int x2)] → k12 x1 x2 m = some fin → W p l e rmX12_goes s mm args below meth c H locs 0 0 (MQ below (QI D ca ad s.heap.size fin.1 fin.2) args s 0 0 (WA ca ad s.heap.size)) (F0 mm 12 ls [])) : ∀ (x1 : Int32) (x2 : Int32) (y0 : Int64) (y1 : Int32) (m : Mem) (H : Heap) (locs : List Loc) (ls : Array Slot), IW D ca ad (WA ca ad s.heap.size) s m H locs → lv_has ls 3 [(0, .ref (ad 99)), (1, .int x1), (2, .int x2)] → fX12_goes_85 N k12 x1 x2 y0 y1 m = some fin → W p l e rmX12_goes s mm args below meth c H locs 0 0 (MQ below (QI D ca ad s.heap.size fin.1 fin.2) args s 0 0 (WA ca ad s.heap.size)) (F0 mm 85 ls [.long y0, .int y1, .ref (ad 122)]) := by
  have hx := X.1
  have hb := X.2.1
  intro x1 x2 y0 y1 m H locs ls hI hl hm
  have hm : (if y1 < 0 ∨ 64 ≤ y1.toNatClampNeg then none else (k12 x1 (x2 + (1 : Int32)) (mI (mJ m 122 y1.toNatClampNeg y0) 99 38 (((mJ m 122 y1.toNatClampNeg y0).1 99 38) + (1 : Int32))))) = some fin := hm
  obtain ⟨g10, hm⟩ := g_no hm
  refine sL X hI (la_122 hn) g10 dX12_goes_85 (fun H locs hI => ?_)
  refine lv_aload_n hx hb dX12_goes_86 rfl (lv_at hl 0 rfl) ?_
  refine lv_dup hx hb dX12_goes_87 rfl ?_
  refine gI X hI fdX12_320 (la_99 hn) dX12_goes_88 ?_
  refine lv_iconst (v := (1 : Int32)) hx hb dX12_goes_91 (by decide) ?_
  refine lv_iadd hx hb dX12_goes_92 ?_
  refine pI X hI fpX12_320 (la_99 hn) dX12_goes_93 (fun H locs hI => ?_)
  refine lv_iinc (v := (x2 + (1 : Int32))) (lv' := [(2, .int (x2 + (1 : Int32))), (0, .ref (ad 99)), (1, .int x1)]) hx hb dX12_goes_96 hl (k := 2) rfl rfl (by decide) rfl (fun ls hl => ?_)
  refine lv_goto (tgt := 12) hx hb dX12_goes_99 (by decide) ?_
  exact hk12 x1 (x2 + (1 : Int32)) (mI (mJ m 122 y1.toNatClampNeg y0) 99 38 (((mJ m 122 y1.toNatClampNeg y0).1 99 38) + (1 : Int32))) H locs ls hI (lv_sub hl [1, 2, 0] rfl) hm
def fX12_goes_12 (N : Nat) : Nat → Int32 → Int32 → Mem → Option (Int32 × Mem)
  | 0, _, _, _ => none
  | n + 1, x1, x2, m => if x1 < 0 ∨ 6 ≤ x1.toNatClampNeg then none else (if (m.1 118 x1.toNatClampNeg) ≤ x2 then (some ((1 : Int32), m)) else (if x2 < 0 ∨ 128 ≤ x2.toNatClampNeg then none else (if (m.1 119 x2.toNatClampNeg) = (2 : Int32) then (if x2 < 0 ∨ 128 ≤ x2.toNatClampNeg then none else ((fX12_works (m.1 120 x2.toNatClampNeg) m).bind (fun q13 => if q13.1 = 0 then (some ((0 : Int32), q13.2)) else (fX12_goes_12 N n x1 (x2 + (1 : Int32)) q13.2)))) else (if x2 < 0 ∨ 128 ≤ x2.toNatClampNeg then none else (if (m.1 119 x2.toNatClampNeg) = 0 then (if x2 < 0 ∨ 128 ≤ x2.toNatClampNeg then none else (fX12_goes_85 N (fun x1 x2 m => fX12_goes_12 N n x1 x2 m) x1 x2 (m.1 120 x2.toNatClampNeg).toInt64 (m.1 99 38) m)) else (if x2 < 0 ∨ 128 ≤ x2.toNatClampNeg then none else (if (m.1 120 x2.toNatClampNeg) < 0 ∨ 7 ≤ (m.1 120 x2.toNatClampNeg).toNatClampNeg then none else (fX12_goes_85 N (fun x1 x2 m => fX12_goes_12 N n x1 x2 m) x1 x2 (m.2.1 121 (m.1 120 x2.toNatClampNeg).toNatClampNeg) (m.1 99 38) m))))))))
set_option maxHeartbeats 4000000 in
set_option maxRecDepth 100000 in
theorem tX12_goes_12 (N : Nat) {l : Launch} {D : va_G} {ca : Nat → ClassId} {ad : Nat → Nat} {p : Program} {e : Env} {s : State} {mm : MethodId} {args : Array Value} {below : List Frame} {meth : Method} {c : Code}  (hn : HNr ca) (X : CX p s mm args meth c cX12_goes 3 RX12 D ca ad (WA ca ad s.heap.size)) (hr : meth.sig.returnType = (some .boolean)) (fin : (Int32 × Mem))  : ∀ (n : Nat) (x1 : Int32) (x2 : Int32) (m : Mem) (H : Heap) (locs : List Loc) (ls : Array Slot), IW D ca ad (WA ca ad s.heap.size) s m H locs → lv_has ls 3 [(0, .ref (ad 99)), (1, .int x1), (2, .int x2)] → fX12_goes_12 N n x1 x2 m = some fin → W p l e rmX12_goes s mm args below meth c H locs 0 0 (MQ below (QI D ca ad s.heap.size fin.1 fin.2) args s 0 0 (WA ca ad s.heap.size)) (F0 mm 12 ls []) := by
  have hx := X.1
  have hb := X.2.1
  intro n
  induction n with
  | zero => intro x1 x2 m H locs ls hI hl hm
            exact absurd hm (by intro q; cases q)
  | succ n ih =>
    intro x1 x2 m H locs ls hI hl hm
    have hm : (if x1 < 0 ∨ 6 ≤ x1.toNatClampNeg then none else (if (m.1 118 x1.toNatClampNeg) ≤ x2 then (some ((1 : Int32), m)) else (if x2 < 0 ∨ 128 ≤ x2.toNatClampNeg then none else (if (m.1 119 x2.toNatClampNeg) = (2 : Int32) then (if x2 < 0 ∨ 128 ≤ x2.toNatClampNeg then none else ((fX12_works (m.1 120 x2.toNatClampNeg) m).bind (fun q13 => if q13.1 = 0 then (some ((0 : Int32), q13.2)) else (fX12_goes_12 N n x1 (x2 + (1 : Int32)) q13.2)))) else (if x2 < 0 ∨ 128 ≤ x2.toNatClampNeg then none else (if (m.1 119 x2.toNatClampNeg) = 0 then (if x2 < 0 ∨ 128 ≤ x2.toNatClampNeg then none else (fX12_goes_85 N (fun x1 x2 m => fX12_goes_12 N n x1 x2 m) x1 x2 (m.1 120 x2.toNatClampNeg).toInt64 (m.1 99 38) m)) else (if x2 < 0 ∨ 128 ≤ x2.toNatClampNeg then none else (if (m.1 120 x2.toNatClampNeg) < 0 ∨ 7 ≤ (m.1 120 x2.toNatClampNeg).toNatClampNeg then none else (fX12_goes_85 N (fun x1 x2 m => fX12_goes_12 N n x1 x2 m) x1 x2 (m.2.1 121 (m.1 120 x2.toNatClampNeg).toNatClampNeg) (m.1 99 38) m))))))))) = some fin := hm
    refine lv_iload_n hx hb dX12_goes_12 rfl (lv_at hl 2 rfl) ?_
    refine lv_aload_n hx hb dX12_goes_13 rfl (lv_at hl 0 rfl) ?_
    refine gR X hI fdX12_64 (la_99 hn) rf12_20 dX12_goes_14 ?_
    refine lv_iload_n hx hb dX12_goes_17 rfl (lv_at hl 1 rfl) ?_
    obtain ⟨g2, hm⟩ := g_no hm
    refine aI X hI (la_118 hn) g2 dX12_goes_18 ?_
    refine lv_icmp_ge (tgt := 102) hx hb dX12_goes_19 (by decide) (fun c3 => ?_) (fun c3 => ?_)
    · have hm := g_t c3 hm
      refine lv_iconst (v := (1 : Int32)) hx hb dX12_goes_102 (by decide) ?_
      exact rZ X hI hr (by decide) (g_p hm).1 (g_p hm).2 dX12_goes_103
    · have hm := g_f c3 hm
      refine lv_aload_n hx hb dX12_goes_22 rfl (lv_at hl 0 rfl) ?_
      refine gR X hI fdX12_67 (la_99 hn) rf12_21 dX12_goes_23 ?_
      refine lv_iload_n hx hb dX12_goes_26 rfl (lv_at hl 2 rfl) ?_
      obtain ⟨g4, hm⟩ := g_no hm
      refine aI X hI (la_119 hn) g4 dX12_goes_27 ?_
      refine lv_iconst (v := (2 : Int32)) hx hb dX12_goes_28 (by decide) ?_
      refine lv_icmp_ne (tgt := 47) hx hb dX12_goes_29 (by decide) (fun c5 => ?_) (fun c5 => ?_)
      · have hm := g_f c5 hm
        refine lv_aload_n hx hb dX12_goes_47 rfl (lv_at hl 0 rfl) ?_
        refine gR X hI fdX12_81 (la_99 hn) rf12_37 dX12_goes_48 ?_
        refine lv_aload_n hx hb dX12_goes_51 rfl (lv_at hl 0 rfl) ?_
        refine gI X hI fdX12_320 (la_99 hn) dX12_goes_52 ?_
        refine lv_aload_n hx hb dX12_goes_55 rfl (lv_at hl 0 rfl) ?_
        refine gR X hI fdX12_67 (la_99 hn) rf12_21 dX12_goes_56 ?_
        refine lv_iload_n hx hb dX12_goes_59 rfl (lv_at hl 2 rfl) ?_
        obtain ⟨g6, hm⟩ := g_no hm
        refine aI X hI (la_119 hn) g6 dX12_goes_60 ?_
        refine lv_if_ne (tgt := 74) hx hb dX12_goes_61 (by decide) (fun c7 => ?_) (fun c7 => ?_)
        · have hm := g_f c7 hm
          refine lv_aload_n hx hb dX12_goes_74 rfl (lv_at hl 0 rfl) ?_
          refine gR X hI fdX12_77 (la_99 hn) rf12_36 dX12_goes_75 ?_
          refine lv_aload_n hx hb dX12_goes_78 rfl (lv_at hl 0 rfl) ?_
          refine gR X hI fdX12_70 (la_99 hn) rf12_22 dX12_goes_79 ?_
          refine lv_iload_n hx hb dX12_goes_82 rfl (lv_at hl 2 rfl) ?_
          obtain ⟨g8, hm⟩ := g_no hm
          refine aI X hI (la_120 hn) g8 dX12_goes_83 ?_
          obtain ⟨g9, hm⟩ := g_no hm
          refine aL X hI (la_121 hn) g9 dX12_goes_84 ?_
          exact tX12_goes_85 N hn X hr fin ih x1 x2 (m.2.1 121 (m.1 120 x2.toNatClampNeg).toNatClampNeg) (m.1 99 38) m H locs ls hI (lv_sub hl [0, 1, 2] rfl) hm
        · have hm := g_t c7 hm
          refine lv_aload_n hx hb dX12_goes_64 rfl (lv_at hl 0 rfl) ?_
          refine gR X hI fdX12_70 (la_99 hn) rf12_22 dX12_goes_65 ?_
          refine lv_iload_n hx hb dX12_goes_68 rfl (lv_at hl 2 rfl) ?_
          obtain ⟨g11, hm⟩ := g_no hm
          refine aI X hI (la_120 hn) g11 dX12_goes_69 ?_
          refine lv_i2l hx hb dX12_goes_70 rfl ?_
          refine lv_goto (tgt := 85) hx hb dX12_goes_71 (by decide) ?_
          exact tX12_goes_85 N hn X hr fin ih x1 x2 (m.1 120 x2.toNatClampNeg).toInt64 (m.1 99 38) m H locs ls hI (lv_sub hl [0, 1, 2] rfl) hm
      · have hm := g_t c5 hm
        refine lv_aload_n hx hb dX12_goes_32 rfl (lv_at hl 0 rfl) ?_
        refine lv_aload_n hx hb dX12_goes_33 rfl (lv_at hl 0 rfl) ?_
        refine gR X hI fdX12_70 (la_99 hn) rf12_22 dX12_goes_34 ?_
        refine lv_iload_n hx hb dX12_goes_37 rfl (lv_at hl 2 rfl) ?_
        obtain ⟨g12, hm⟩ := g_no hm
        refine aI X hI (la_120 hn) g12 dX12_goes_38 ?_
        obtain ⟨q13, h14, hm⟩ := g_b hm
        refine backI X hI (runV X hI (ctX12_works (m.1 120 x2.toNatClampNeg)  hn _ _ h14 _) mdX12_337 (la_99 hn) rfl ⟨rfl, rfl⟩ ⟨Nat.le_of_ble_eq_true rfl, Nat.le_of_ble_eq_true rfl⟩ rfl hl.1 rfl (Nat.le_of_ble_eq_true rfl) dX12_goes_39) (fun H locs hI => ?_)
        refine lv_if_ne (tgt := 96) hx hb dX12_goes_42 (by decide) (fun c15 => ?_) (fun c15 => ?_)
        · have hm := g_f c15 hm
          refine lv_iinc (v := (x2 + (1 : Int32))) (lv' := [(2, .int (x2 + (1 : Int32))), (0, .ref (ad 99)), (1, .int x1)]) hx hb dX12_goes_96 hl (k := 2) rfl rfl (by decide) rfl (fun ls hl => ?_)
          refine lv_goto (tgt := 12) hx hb dX12_goes_99 (by decide) ?_
          exact ih x1 (x2 + (1 : Int32)) q13.2 H locs ls hI (lv_sub hl [1, 2, 0] rfl) hm
        · have hm := g_t c15 hm
          refine lv_iconst (v := (0 : Int32)) hx hb dX12_goes_45 (by decide) ?_
          exact rZ X hI hr (by decide) (g_p hm).1 (g_p hm).2 dX12_goes_46
def fX12_goes (N : Nat) (x1 : Int32) (m : Mem) : Option (Int32 × Mem) := if x1 < 0 ∨ 6 ≤ x1.toNatClampNeg then none else (fX12_goes_12 N N x1 ((mI m 99 38 (0 : Int32)).1 117 x1.toNatClampNeg) (mI m 99 38 (0 : Int32)))
set_option maxHeartbeats 4000000 in
set_option maxRecDepth 100000 in
theorem ctX12_goes {l : Launch} {D : va_G} {ca : Nat → ClassId} {ad : Nat → Nat} (N : Nat) (x1 : Int32)  (hn : HNr ca) (m : Mem) (fin : (Int32 × Mem)) (hm : fX12_goes N x1 m = some fin) : CI l D ca ad yX12_goes cwX12_goes rmX12_goes [.ref (ad 99), .int x1] m fin.1 fin.2 := by
  refine start (by decide) (Nat.le_of_ble_eq_true rfl) ?_
  intro p e s mm args below meth c H locs ls X hI hr hl
  have X : CX p s mm args meth c cX12_goes 3 RX12 D ca ad (WA ca ad s.heap.size) := X
  have hx := X.1
  have hb := X.2.1
  have hl : lv_has ls 3 [(0, .ref (ad 99)), (1, .int x1)] := hl
  have hm : (if x1 < 0 ∨ 6 ≤ x1.toNatClampNeg then none else (fX12_goes_12 N N x1 ((mI m 99 38 (0 : Int32)).1 117 x1.toNatClampNeg) (mI m 99 38 (0 : Int32)))) = some fin := hm
  refine lv_aload_n hx hb dX12_goes_0 rfl (lv_at hl 0 rfl) ?_
  refine lv_iconst (v := (0 : Int32)) hx hb dX12_goes_1 (by decide) ?_
  refine pI X hI fpX12_320 (la_99 hn) dX12_goes_2 (fun H locs hI => ?_)
  refine lv_aload_n hx hb dX12_goes_5 rfl (lv_at hl 0 rfl) ?_
  refine gR X hI fdX12_61 (la_99 hn) rf12_19 dX12_goes_6 ?_
  refine lv_iload_n hx hb dX12_goes_9 rfl (lv_at hl 1 rfl) ?_
  obtain ⟨g1, hm⟩ := g_no hm
  refine aI X hI (la_117 hn) g1 dX12_goes_10 ?_
  refine lv_istore_n (lv' := [(2, .int ((mI m 99 38 (0 : Int32)).1 117 x1.toNatClampNeg)), (0, .ref (ad 99)), (1, .int x1)]) hx hb dX12_goes_11 rfl hl (by decide) rfl (fun ls hl => ?_)
  exact tX12_goes_12 N hn X hr fin  N x1 ((mI m 99 38 (0 : Int32)).1 117 x1.toNatClampNeg) (mI m 99 38 (0 : Int32)) H locs ls hI (lv_sub hl [1, 2, 0] rfl) hm
abbrev rmX12_hasLaw : Room := { frames := 0, cells := 0, slots := 0, locals := 0 }
def fX12_hasLaw  (x1 : Int32) (m : Mem) : Option Int32 := if x1 < 0 ∨ 6 ≤ x1.toNatClampNeg then none else (if x1 < 0 ∨ 6 ≤ x1.toNatClampNeg then none else (if (m.1 118 x1.toNatClampNeg) ≤ (m.1 117 x1.toNatClampNeg) then (some (0 : Int32)) else (some (1 : Int32))))
set_option maxHeartbeats 4000000 in
set_option maxRecDepth 100000 in
theorem ctX12_hasLaw {l : Launch} {D : va_G} {ca : Nat → ClassId} {ad : Nat → Nat}  (x1 : Int32)  (hn : HNr ca) (m : Mem) (fin : Int32) (hm : fX12_hasLaw x1 m = some fin) : CI l D ca ad yX12_hasLaw cwX12_hasLaw rmX12_hasLaw [.ref (ad 99), .int x1] m fin m := by
  refine start (by decide) (Nat.le_of_ble_eq_true rfl) ?_
  intro p e s mm args below meth c H locs ls X hI hr hl
  have X : CX p s mm args meth c cX12_hasLaw 2 RX12 D ca ad (WA ca ad s.heap.size) := X
  have hx := X.1
  have hb := X.2.1
  have hl : lv_has ls 2 [(0, .ref (ad 99)), (1, .int x1)] := hl
  have hm : (if x1 < 0 ∨ 6 ≤ x1.toNatClampNeg then none else (if x1 < 0 ∨ 6 ≤ x1.toNatClampNeg then none else (if (m.1 118 x1.toNatClampNeg) ≤ (m.1 117 x1.toNatClampNeg) then (some (0 : Int32)) else (some (1 : Int32))))) = some fin := hm
  have hpm : m = m := rfl
  refine lv_aload_n hx hb dX12_hasLaw_0 rfl (lv_at hl 0 rfl) ?_
  refine gR X hI fdX12_64 (la_99 hn) rf12_20 dX12_hasLaw_1 ?_
  refine lv_iload_n hx hb dX12_hasLaw_4 rfl (lv_at hl 1 rfl) ?_
  obtain ⟨g1, hm⟩ := g_no hm
  refine aI X hI (la_118 hn) g1 dX12_hasLaw_5 ?_
  refine lv_aload_n hx hb dX12_hasLaw_6 rfl (lv_at hl 0 rfl) ?_
  refine gR X hI fdX12_61 (la_99 hn) rf12_19 dX12_hasLaw_7 ?_
  refine lv_iload_n hx hb dX12_hasLaw_10 rfl (lv_at hl 1 rfl) ?_
  obtain ⟨g2, hm⟩ := g_no hm
  refine aI X hI (la_117 hn) g2 dX12_hasLaw_11 ?_
  refine lv_icmp_le (tgt := 19) hx hb dX12_hasLaw_12 (by decide) (fun c3 => ?_) (fun c3 => ?_)
  · have hm := g_t c3 hm
    refine lv_iconst (v := (0 : Int32)) hx hb dX12_hasLaw_19 (by decide) ?_
    exact rZ X hI hr (by decide) (g_1 hm) hpm dX12_hasLaw_20
  · have hm := g_f c3 hm
    refine lv_iconst (v := (1 : Int32)) hx hb dX12_hasLaw_15 (by decide) ?_
    refine lv_goto (tgt := 20) hx hb dX12_hasLaw_16 (by decide) ?_
    exact rZ X hI hr (by decide) (g_1 hm) hpm dX12_hasLaw_20
abbrev rmX12_starts : Room := { frames := 0, cells := 0, slots := 0, locals := 0 }
def fX12_starts_122 (N : Nat) (k29 : Int32 → Int32 → Mem → Option Mem) (x1 : Int32) (x2 : Int32) (x3 : Int32) (y0 : Int32) (y1 : Int32) (m : Mem) : Option Mem := if y1 < 0 ∨ 138 ≤ y1.toNatClampNeg then none else (if x3 < 0 ∨ 138 ≤ x3.toNatClampNeg then none else (if x3 < 0 ∨ 138 ≤ x3.toNatClampNeg then none else (if x3 < 0 ∨ 138 ≤ x3.toNatClampNeg then none else (if x3 < 0 ∨ 138 ≤ x3.toNatClampNeg then none else (if x3 < 0 ∨ 138 ≤ x3.toNatClampNeg then none else (k29 x1 (x2 + (1 : Int32)) (mI (mI (mI (mI (mI (mI m 128 y1.toNatClampNeg y0) 129 x3.toNatClampNeg (-1 : Int32)) 130 x3.toNatClampNeg (0 : Int32)) 131 x3.toNatClampNeg (0 : Int32)) 132 x3.toNatClampNeg (0 : Int32)) 133 x3.toNatClampNeg (0 : Int32))))))))
set_option maxHeartbeats 4000000 in
set_option maxRecDepth 100000 in
theorem tX12_starts_122 (N : Nat) {l : Launch} {D : va_G} {ca : Nat → ClassId} {ad : Nat → Nat} {p : Program} {e : Env} {s : State} {mm : MethodId} {args : Array Value} {below : List Frame} {meth : Method} {c : Code} {k29 : Int32 → Int32 → Mem → Option Mem} (hn : HNr ca) (X : CX p s mm args meth c cX12_starts 4 RX12 D ca ad (WA ca ad s.heap.size)) (hr : meth.sig.returnType = none) (fin : Mem) (hk29 : ∀ (x1 : Int32) (x2 : Int32) (m : Mem) (H : Heap) (locs : List Loc) (ls : Array Slot), IW D ca ad (WA ca ad s.heap.size) s m H locs → lv_has ls 4 [(0, .ref (ad 99)), (1, .int x1), (2, .int x2)] → k29 x1 x2 m = some fin → W p l e rmX12_starts s mm args below meth c H locs 0 0 (MQ below (QV D ca ad s.heap.size fin) args s 0 0 (WA ca ad s.heap.size)) (F0 mm 29 ls [])) : ∀ (x1 : Int32) (x2 : Int32) (x3 : Int32) (y0 : Int32) (y1 : Int32) (m : Mem) (H : Heap) (locs : List Loc) (ls : Array Slot), IW D ca ad (WA ca ad s.heap.size) s m H locs → lv_has ls 4 [(0, .ref (ad 99)), (1, .int x1), (2, .int x2), (3, .int x3)] → fX12_starts_122 N k29 x1 x2 x3 y0 y1 m = some fin → W p l e rmX12_starts s mm args below meth c H locs 0 0 (MQ below (QV D ca ad s.heap.size fin) args s 0 0 (WA ca ad s.heap.size)) (F0 mm 122 ls [.int y0, .int y1, .ref (ad 128)]) := by
  have hx := X.1
  have hb := X.2.1
  intro x1 x2 x3 y0 y1 m H locs ls hI hl hm
  have hm : (if y1 < 0 ∨ 138 ≤ y1.toNatClampNeg then none else (if x3 < 0 ∨ 138 ≤ x3.toNatClampNeg then none else (if x3 < 0 ∨ 138 ≤ x3.toNatClampNeg then none else (if x3 < 0 ∨ 138 ≤ x3.toNatClampNeg then none else (if x3 < 0 ∨ 138 ≤ x3.toNatClampNeg then none else (if x3 < 0 ∨ 138 ≤ x3.toNatClampNeg then none else (k29 x1 (x2 + (1 : Int32)) (mI (mI (mI (mI (mI (mI m 128 y1.toNatClampNeg y0) 129 x3.toNatClampNeg (-1 : Int32)) 130 x3.toNatClampNeg (0 : Int32)) 131 x3.toNatClampNeg (0 : Int32)) 132 x3.toNatClampNeg (0 : Int32)) 133 x3.toNatClampNeg (0 : Int32))))))))) = some fin := hm
  obtain ⟨g10, hm⟩ := g_no hm
  refine sI X hI (la_128 hn) g10 dX12_starts_122 (fun H locs hI => ?_)
  refine lv_aload_n hx hb dX12_starts_123 rfl (lv_at hl 0 rfl) ?_
  refine gR X hI fdX12_102 (la_99 hn) rf12_45 dX12_starts_124 ?_
  refine lv_iload_n hx hb dX12_starts_127 rfl (lv_at hl 3 rfl) ?_
  refine lv_iconst (v := (-1 : Int32)) hx hb dX12_starts_128 (by decide) ?_
  obtain ⟨g11, hm⟩ := g_no hm
  refine sI X hI (la_129 hn) g11 dX12_starts_129 (fun H locs hI => ?_)
  refine lv_aload_n hx hb dX12_starts_130 rfl (lv_at hl 0 rfl) ?_
  refine gR X hI fdX12_105 (la_99 hn) rf12_46 dX12_starts_131 ?_
  refine lv_iload_n hx hb dX12_starts_134 rfl (lv_at hl 3 rfl) ?_
  refine lv_iconst (v := (0 : Int32)) hx hb dX12_starts_135 (by decide) ?_
  obtain ⟨g12, hm⟩ := g_no hm
  refine sI X hI (la_130 hn) g12 dX12_starts_136 (fun H locs hI => ?_)
  refine lv_aload_n hx hb dX12_starts_137 rfl (lv_at hl 0 rfl) ?_
  refine gR X hI fdX12_108 (la_99 hn) rf12_47 dX12_starts_138 ?_
  refine lv_iload_n hx hb dX12_starts_141 rfl (lv_at hl 3 rfl) ?_
  refine lv_iconst (v := (0 : Int32)) hx hb dX12_starts_142 (by decide) ?_
  obtain ⟨g13, hm⟩ := g_no hm
  refine sI X hI (la_131 hn) g13 dX12_starts_143 (fun H locs hI => ?_)
  refine lv_aload_n hx hb dX12_starts_144 rfl (lv_at hl 0 rfl) ?_
  refine gR X hI fdX12_111 (la_99 hn) rf12_48 dX12_starts_145 ?_
  refine lv_iload_n hx hb dX12_starts_148 rfl (lv_at hl 3 rfl) ?_
  refine lv_iconst (v := (0 : Int32)) hx hb dX12_starts_149 (by decide) ?_
  obtain ⟨g14, hm⟩ := g_no hm
  refine sI X hI (la_132 hn) g14 dX12_starts_150 (fun H locs hI => ?_)
  refine lv_aload_n hx hb dX12_starts_151 rfl (lv_at hl 0 rfl) ?_
  refine gR X hI fdX12_114 (la_99 hn) rf12_49 dX12_starts_152 ?_
  refine lv_iload_n hx hb dX12_starts_155 rfl (lv_at hl 3 rfl) ?_
  refine lv_iconst (v := (0 : Int32)) hx hb dX12_starts_156 (by decide) ?_
  obtain ⟨g15, hm⟩ := g_no hm
  refine sI X hI (la_133 hn) g15 dX12_starts_157 (fun H locs hI => ?_)
  refine lv_iinc (v := (x2 + (1 : Int32))) (lv' := [(2, .int (x2 + (1 : Int32))), (0, .ref (ad 99)), (1, .int x1), (3, .int x3)]) hx hb dX12_starts_158 hl (k := 2) rfl rfl (by decide) rfl (fun ls hl => ?_)
  refine lv_goto (tgt := 29) hx hb dX12_starts_161 (by decide) ?_
  exact hk29 x1 (x2 + (1 : Int32)) (mI (mI (mI (mI (mI (mI m 128 y1.toNatClampNeg y0) 129 x3.toNatClampNeg (-1 : Int32)) 130 x3.toNatClampNeg (0 : Int32)) 131 x3.toNatClampNeg (0 : Int32)) 132 x3.toNatClampNeg (0 : Int32)) 133 x3.toNatClampNeg (0 : Int32)) H locs ls hI (lv_sub hl [1, 2, 0] rfl) hm
def fX12_starts_96 (N : Nat) (k29 : Int32 → Int32 → Mem → Option Mem) (x1 : Int32) (x2 : Int32) (x3 : Int32) (y0 : Int32) (y1 : Int32) (m : Mem) : Option Mem := if y1 < 0 ∨ 138 ≤ y1.toNatClampNeg then none else (if ((mI m 127 y1.toNatClampNeg y0).1 101 0) ≤ x2 then (fX12_starts_122 N k29 x1 x2 x3 (0 : Int32) x3 (mI m 127 y1.toNatClampNeg y0)) else (if x2 < 0 ∨ 12 ≤ x2.toNatClampNeg then none else (fX12_starts_122 N k29 x1 x2 x3 ((mI m 127 y1.toNatClampNeg y0).1 103 x2.toNatClampNeg) x3 (mI m 127 y1.toNatClampNeg y0))))
set_option maxHeartbeats 4000000 in
set_option maxRecDepth 100000 in
theorem tX12_starts_96 (N : Nat) {l : Launch} {D : va_G} {ca : Nat → ClassId} {ad : Nat → Nat} {p : Program} {e : Env} {s : State} {mm : MethodId} {args : Array Value} {below : List Frame} {meth : Method} {c : Code} {k29 : Int32 → Int32 → Mem → Option Mem} (hn : HNr ca) (X : CX p s mm args meth c cX12_starts 4 RX12 D ca ad (WA ca ad s.heap.size)) (hr : meth.sig.returnType = none) (fin : Mem) (hk29 : ∀ (x1 : Int32) (x2 : Int32) (m : Mem) (H : Heap) (locs : List Loc) (ls : Array Slot), IW D ca ad (WA ca ad s.heap.size) s m H locs → lv_has ls 4 [(0, .ref (ad 99)), (1, .int x1), (2, .int x2)] → k29 x1 x2 m = some fin → W p l e rmX12_starts s mm args below meth c H locs 0 0 (MQ below (QV D ca ad s.heap.size fin) args s 0 0 (WA ca ad s.heap.size)) (F0 mm 29 ls [])) : ∀ (x1 : Int32) (x2 : Int32) (x3 : Int32) (y0 : Int32) (y1 : Int32) (m : Mem) (H : Heap) (locs : List Loc) (ls : Array Slot), IW D ca ad (WA ca ad s.heap.size) s m H locs → lv_has ls 4 [(0, .ref (ad 99)), (1, .int x1), (2, .int x2), (3, .int x3)] → fX12_starts_96 N k29 x1 x2 x3 y0 y1 m = some fin → W p l e rmX12_starts s mm args below meth c H locs 0 0 (MQ below (QV D ca ad s.heap.size fin) args s 0 0 (WA ca ad s.heap.size)) (F0 mm 96 ls [.int y0, .int y1, .ref (ad 127)]) := by
  have hx := X.1
  have hb := X.2.1
  intro x1 x2 x3 y0 y1 m H locs ls hI hl hm
  have hm : (if y1 < 0 ∨ 138 ≤ y1.toNatClampNeg then none else (if ((mI m 127 y1.toNatClampNeg y0).1 101 0) ≤ x2 then (fX12_starts_122 N k29 x1 x2 x3 (0 : Int32) x3 (mI m 127 y1.toNatClampNeg y0)) else (if x2 < 0 ∨ 12 ≤ x2.toNatClampNeg then none else (fX12_starts_122 N k29 x1 x2 x3 ((mI m 127 y1.toNatClampNeg y0).1 103 x2.toNatClampNeg) x3 (mI m 127 y1.toNatClampNeg y0))))) = some fin := hm
  obtain ⟨g8, hm⟩ := g_no hm
  refine sI X hI (la_127 hn) g8 dX12_starts_96 (fun H locs hI => ?_)
  refine lv_aload_n hx hb dX12_starts_97 rfl (lv_at hl 0 rfl) ?_
  refine gR X hI fdX12_99 (la_99 hn) rf12_44 dX12_starts_98 ?_
  refine lv_iload_n hx hb dX12_starts_101 rfl (lv_at hl 3 rfl) ?_
  refine lv_iload_n hx hb dX12_starts_102 rfl (lv_at hl 2 rfl) ?_
  refine lv_aload_n hx hb dX12_starts_103 rfl (lv_at hl 0 rfl) ?_
  refine gR X hI fdX12_13 (la_99 hn) rf12_3 dX12_starts_104 ?_
  refine lv_iconst (v := (0 : Int32)) hx hb dX12_starts_107 (by decide) ?_
  refine aIc (j := 0) X hI (la_101 hn) (by decide) (by decide) dX12_starts_108 ?_
  refine lv_icmp_ge (tgt := 121) hx hb dX12_starts_109 (by decide) (fun c9 => ?_) (fun c9 => ?_)
  · have hm := g_t c9 hm
    refine lv_iconst (v := (0 : Int32)) hx hb dX12_starts_121 (by decide) ?_
    exact tX12_starts_122 N hn X hr fin hk29 x1 x2 x3 (0 : Int32) x3 (mI m 127 y1.toNatClampNeg y0) H locs ls hI (lv_sub hl [0, 1, 2, 3] rfl) hm
  · have hm := g_f c9 hm
    refine lv_aload_n hx hb dX12_starts_112 rfl (lv_at hl 0 rfl) ?_
    refine gR X hI fdX12_19 (la_99 hn) rf12_5 dX12_starts_113 ?_
    refine lv_iload_n hx hb dX12_starts_116 rfl (lv_at hl 2 rfl) ?_
    obtain ⟨g16, hm⟩ := g_no hm
    refine aI X hI (la_103 hn) g16 dX12_starts_117 ?_
    refine lv_goto (tgt := 122) hx hb dX12_starts_118 (by decide) ?_
    exact tX12_starts_122 N hn X hr fin hk29 x1 x2 x3 ((mI m 127 y1.toNatClampNeg y0).1 103 x2.toNatClampNeg) x3 (mI m 127 y1.toNatClampNeg y0) H locs ls hI (lv_sub hl [0, 1, 2, 3] rfl) hm
def fX12_starts_67 (N : Nat) (k29 : Int32 → Int32 → Mem → Option Mem) (x1 : Int32) (x2 : Int32) (x3 : Int32) (y0 : Int32) (y1 : Int32) (m : Mem) : Option Mem := if y1 < 0 ∨ 138 ≤ y1.toNatClampNeg then none else (if ((mI m 126 y1.toNatClampNeg y0).1 101 1) ≤ x2 then (fX12_starts_96 N k29 x1 x2 x3 (0 : Int32) x3 (mI m 126 y1.toNatClampNeg y0)) else (if x2 < 0 ∨ 12 ≤ x2.toNatClampNeg then none else (fX12_starts_96 N k29 x1 x2 x3 ((10 : Int32) * ((mI m 126 y1.toNatClampNeg y0).1 107 x2.toNatClampNeg)) x3 (mI m 126 y1.toNatClampNeg y0))))
set_option maxHeartbeats 4000000 in
set_option maxRecDepth 100000 in
theorem tX12_starts_67 (N : Nat) {l : Launch} {D : va_G} {ca : Nat → ClassId} {ad : Nat → Nat} {p : Program} {e : Env} {s : State} {mm : MethodId} {args : Array Value} {below : List Frame} {meth : Method} {c : Code} {k29 : Int32 → Int32 → Mem → Option Mem} (hn : HNr ca) (X : CX p s mm args meth c cX12_starts 4 RX12 D ca ad (WA ca ad s.heap.size)) (hr : meth.sig.returnType = none) (fin : Mem) (hk29 : ∀ (x1 : Int32) (x2 : Int32) (m : Mem) (H : Heap) (locs : List Loc) (ls : Array Slot), IW D ca ad (WA ca ad s.heap.size) s m H locs → lv_has ls 4 [(0, .ref (ad 99)), (1, .int x1), (2, .int x2)] → k29 x1 x2 m = some fin → W p l e rmX12_starts s mm args below meth c H locs 0 0 (MQ below (QV D ca ad s.heap.size fin) args s 0 0 (WA ca ad s.heap.size)) (F0 mm 29 ls [])) : ∀ (x1 : Int32) (x2 : Int32) (x3 : Int32) (y0 : Int32) (y1 : Int32) (m : Mem) (H : Heap) (locs : List Loc) (ls : Array Slot), IW D ca ad (WA ca ad s.heap.size) s m H locs → lv_has ls 4 [(0, .ref (ad 99)), (1, .int x1), (2, .int x2), (3, .int x3)] → fX12_starts_67 N k29 x1 x2 x3 y0 y1 m = some fin → W p l e rmX12_starts s mm args below meth c H locs 0 0 (MQ below (QV D ca ad s.heap.size fin) args s 0 0 (WA ca ad s.heap.size)) (F0 mm 67 ls [.int y0, .int y1, .ref (ad 126)]) := by
  have hx := X.1
  have hb := X.2.1
  intro x1 x2 x3 y0 y1 m H locs ls hI hl hm
  have hm : (if y1 < 0 ∨ 138 ≤ y1.toNatClampNeg then none else (if ((mI m 126 y1.toNatClampNeg y0).1 101 1) ≤ x2 then (fX12_starts_96 N k29 x1 x2 x3 (0 : Int32) x3 (mI m 126 y1.toNatClampNeg y0)) else (if x2 < 0 ∨ 12 ≤ x2.toNatClampNeg then none else (fX12_starts_96 N k29 x1 x2 x3 ((10 : Int32) * ((mI m 126 y1.toNatClampNeg y0).1 107 x2.toNatClampNeg)) x3 (mI m 126 y1.toNatClampNeg y0))))) = some fin := hm
  obtain ⟨g6, hm⟩ := g_no hm
  refine sI X hI (la_126 hn) g6 dX12_starts_67 (fun H locs hI => ?_)
  refine lv_aload_n hx hb dX12_starts_68 rfl (lv_at hl 0 rfl) ?_
  refine gR X hI fdX12_96 (la_99 hn) rf12_43 dX12_starts_69 ?_
  refine lv_iload_n hx hb dX12_starts_72 rfl (lv_at hl 3 rfl) ?_
  refine lv_iload_n hx hb dX12_starts_73 rfl (lv_at hl 2 rfl) ?_
  refine lv_aload_n hx hb dX12_starts_74 rfl (lv_at hl 0 rfl) ?_
  refine gR X hI fdX12_13 (la_99 hn) rf12_3 dX12_starts_75 ?_
  refine lv_iconst (v := (1 : Int32)) hx hb dX12_starts_78 (by decide) ?_
  refine aIc (j := 1) X hI (la_101 hn) (by decide) (by decide) dX12_starts_79 ?_
  refine lv_icmp_ge (tgt := 95) hx hb dX12_starts_80 (by decide) (fun c7 => ?_) (fun c7 => ?_)
  · have hm := g_t c7 hm
    refine lv_iconst (v := (0 : Int32)) hx hb dX12_starts_95 (by decide) ?_
    exact tX12_starts_96 N hn X hr fin hk29 x1 x2 x3 (0 : Int32) x3 (mI m 126 y1.toNatClampNeg y0) H locs ls hI (lv_sub hl [0, 1, 2, 3] rfl) hm
  · have hm := g_f c7 hm
    refine lv_bipush (v := (10 : Int32)) hx hb dX12_starts_83 (by decide) ?_
    refine lv_aload_n hx hb dX12_starts_85 rfl (lv_at hl 0 rfl) ?_
    refine gR X hI fdX12_31 (la_99 hn) rf12_9 dX12_starts_86 ?_
    refine lv_iload_n hx hb dX12_starts_89 rfl (lv_at hl 2 rfl) ?_
    obtain ⟨g17, hm⟩ := g_no hm
    refine aI X hI (la_107 hn) g17 dX12_starts_90 ?_
    refine lv_imul hx hb dX12_starts_91 ?_
    refine lv_goto (tgt := 96) hx hb dX12_starts_92 (by decide) ?_
    exact tX12_starts_96 N hn X hr fin hk29 x1 x2 x3 ((10 : Int32) * ((mI m 126 y1.toNatClampNeg y0).1 107 x2.toNatClampNeg)) x3 (mI m 126 y1.toNatClampNeg y0) H locs ls hI (lv_sub hl [0, 1, 2, 3] rfl) hm
def fX12_starts_29 (N : Nat) : Nat → Int32 → Int32 → Mem → Option Mem
  | 0, _, _, _ => none
  | n + 1, x1, x2, m => if (6 : Int32) ≤ x2 then (some m) else (if (m.1 101 1) ≤ x2 then (fX12_starts_67 N (fun x1 x2 m => fX12_starts_29 N n x1 x2 m) x1 x2 (((6 : Int32) * x1) + x2) (0 : Int32) (((6 : Int32) * x1) + x2) m) else (if x2 < 0 ∨ 12 ≤ x2.toNatClampNeg then none else (fX12_starts_67 N (fun x1 x2 m => fX12_starts_29 N n x1 x2 m) x1 x2 (((6 : Int32) * x1) + x2) (m.1 106 x2.toNatClampNeg) (((6 : Int32) * x1) + x2) m)))
set_option maxHeartbeats 4000000 in
set_option maxRecDepth 100000 in
theorem tX12_starts_29 (N : Nat) {l : Launch} {D : va_G} {ca : Nat → ClassId} {ad : Nat → Nat} {p : Program} {e : Env} {s : State} {mm : MethodId} {args : Array Value} {below : List Frame} {meth : Method} {c : Code}  (hn : HNr ca) (X : CX p s mm args meth c cX12_starts 4 RX12 D ca ad (WA ca ad s.heap.size)) (hr : meth.sig.returnType = none) (fin : Mem)  : ∀ (n : Nat) (x1 : Int32) (x2 : Int32) (m : Mem) (H : Heap) (locs : List Loc) (ls : Array Slot), IW D ca ad (WA ca ad s.heap.size) s m H locs → lv_has ls 4 [(0, .ref (ad 99)), (1, .int x1), (2, .int x2)] → fX12_starts_29 N n x1 x2 m = some fin → W p l e rmX12_starts s mm args below meth c H locs 0 0 (MQ below (QV D ca ad s.heap.size fin) args s 0 0 (WA ca ad s.heap.size)) (F0 mm 29 ls []) := by
  have hx := X.1
  have hb := X.2.1
  intro n
  induction n with
  | zero => intro x1 x2 m H locs ls hI hl hm
            exact absurd hm (by intro q; cases q)
  | succ n ih =>
    intro x1 x2 m H locs ls hI hl hm
    have hm : (if (6 : Int32) ≤ x2 then (some m) else (if (m.1 101 1) ≤ x2 then (fX12_starts_67 N (fun x1 x2 m => fX12_starts_29 N n x1 x2 m) x1 x2 (((6 : Int32) * x1) + x2) (0 : Int32) (((6 : Int32) * x1) + x2) m) else (if x2 < 0 ∨ 12 ≤ x2.toNatClampNeg then none else (fX12_starts_67 N (fun x1 x2 m => fX12_starts_29 N n x1 x2 m) x1 x2 (((6 : Int32) * x1) + x2) (m.1 106 x2.toNatClampNeg) (((6 : Int32) * x1) + x2) m)))) = some fin := hm
    refine lv_iload_n hx hb dX12_starts_29 rfl (lv_at hl 2 rfl) ?_
    refine lv_bipush (v := (6 : Int32)) hx hb dX12_starts_30 (by decide) ?_
    refine lv_icmp_ge (tgt := 164) hx hb dX12_starts_32 (by decide) (fun c4 => ?_) (fun c4 => ?_)
    · have hm := g_t c4 hm
      exact rV X hI hr (g_1 hm) dX12_starts_164
    · have hm := g_f c4 hm
      refine lv_bipush (v := (6 : Int32)) hx hb dX12_starts_35 (by decide) ?_
      refine lv_iload_n hx hb dX12_starts_37 rfl (lv_at hl 1 rfl) ?_
      refine lv_imul hx hb dX12_starts_38 ?_
      refine lv_iload_n hx hb dX12_starts_39 rfl (lv_at hl 2 rfl) ?_
      refine lv_iadd hx hb dX12_starts_40 ?_
      refine lv_istore_n (lv' := [(3, .int (((6 : Int32) * x1) + x2)), (0, .ref (ad 99)), (1, .int x1), (2, .int x2)]) hx hb dX12_starts_41 rfl hl (by decide) rfl (fun ls hl => ?_)
      refine lv_aload_n hx hb dX12_starts_42 rfl (lv_at hl 1 rfl) ?_
      refine gR X hI fdX12_93 (la_99 hn) rf12_42 dX12_starts_43 ?_
      refine lv_iload_n hx hb dX12_starts_46 rfl (lv_at hl 0 rfl) ?_
      refine lv_iload_n hx hb dX12_starts_47 rfl (lv_at hl 3 rfl) ?_
      refine lv_aload_n hx hb dX12_starts_48 rfl (lv_at hl 1 rfl) ?_
      refine gR X hI fdX12_13 (la_99 hn) rf12_3 dX12_starts_49 ?_
      refine lv_iconst (v := (1 : Int32)) hx hb dX12_starts_52 (by decide) ?_
      refine aIc (j := 1) X hI (la_101 hn) (by decide) (by decide) dX12_starts_53 ?_
      refine lv_icmp_ge (tgt := 66) hx hb dX12_starts_54 (by decide) (fun c5 => ?_) (fun c5 => ?_)
      · have hm := g_t c5 hm
        refine lv_iconst (v := (0 : Int32)) hx hb dX12_starts_66 (by decide) ?_
        exact tX12_starts_67 N hn X hr fin ih x1 x2 (((6 : Int32) * x1) + x2) (0 : Int32) (((6 : Int32) * x1) + x2) m H locs ls hI (lv_sub hl [1, 2, 3, 0] rfl) hm
      · have hm := g_f c5 hm
        refine lv_aload_n hx hb dX12_starts_57 rfl (lv_at hl 1 rfl) ?_
        refine gR X hI fdX12_28 (la_99 hn) rf12_8 dX12_starts_58 ?_
        refine lv_iload_n hx hb dX12_starts_61 rfl (lv_at hl 3 rfl) ?_
        obtain ⟨g18, hm⟩ := g_no hm
        refine aI X hI (la_106 hn) g18 dX12_starts_62 ?_
        refine lv_goto (tgt := 67) hx hb dX12_starts_63 (by decide) ?_
        exact tX12_starts_67 N hn X hr fin ih x1 x2 (((6 : Int32) * x1) + x2) (m.1 106 x2.toNatClampNeg) (((6 : Int32) * x1) + x2) m H locs ls hI (lv_sub hl [1, 2, 3, 0] rfl) hm
def fX12_starts (N : Nat) (x1 : Int32) (m : Mem) : Option Mem := if x1 < 0 ∨ 23 ≤ x1.toNatClampNeg then none else (if x1 < 0 ∨ 23 ≤ x1.toNatClampNeg then none else (if x1 < 0 ∨ 23 ≤ x1.toNatClampNeg then none else (fX12_starts_29 N N x1 (0 : Int32) (mI (mI (mI m 123 x1.toNatClampNeg (0 : Int32)) 124 x1.toNatClampNeg ((mI m 123 x1.toNatClampNeg (0 : Int32)).1 101 6)) 125 x1.toNatClampNeg (0 : Int32)))))
set_option maxHeartbeats 4000000 in
set_option maxRecDepth 100000 in
theorem ctX12_starts {l : Launch} {D : va_G} {ca : Nat → ClassId} {ad : Nat → Nat} (N : Nat) (x1 : Int32)  (hn : HNr ca) (m : Mem) (fin : Mem) (hm : fX12_starts N x1 m = some fin) : CV l D ca ad yX12_starts cwX12_starts rmX12_starts [.ref (ad 99), .int x1] m fin := by
  refine start (by decide) (Nat.le_of_ble_eq_true rfl) ?_
  intro p e s mm args below meth c H locs ls X hI hr hl
  have X : CX p s mm args meth c cX12_starts 4 RX12 D ca ad (WA ca ad s.heap.size) := X
  have hx := X.1
  have hb := X.2.1
  have hl : lv_has ls 4 [(0, .ref (ad 99)), (1, .int x1)] := hl
  have hm : (if x1 < 0 ∨ 23 ≤ x1.toNatClampNeg then none else (if x1 < 0 ∨ 23 ≤ x1.toNatClampNeg then none else (if x1 < 0 ∨ 23 ≤ x1.toNatClampNeg then none else (fX12_starts_29 N N x1 (0 : Int32) (mI (mI (mI m 123 x1.toNatClampNeg (0 : Int32)) 124 x1.toNatClampNeg ((mI m 123 x1.toNatClampNeg (0 : Int32)).1 101 6)) 125 x1.toNatClampNeg (0 : Int32)))))) = some fin := hm
  refine lv_aload_n hx hb dX12_starts_0 rfl (lv_at hl 0 rfl) ?_
  refine gR X hI fdX12_84 (la_99 hn) rf12_39 dX12_starts_1 ?_
  refine lv_iload_n hx hb dX12_starts_4 rfl (lv_at hl 1 rfl) ?_
  refine lv_iconst (v := (0 : Int32)) hx hb dX12_starts_5 (by decide) ?_
  obtain ⟨g1, hm⟩ := g_no hm
  refine sI X hI (la_123 hn) g1 dX12_starts_6 (fun H locs hI => ?_)
  refine lv_aload_n hx hb dX12_starts_7 rfl (lv_at hl 0 rfl) ?_
  refine gR X hI fdX12_87 (la_99 hn) rf12_40 dX12_starts_8 ?_
  refine lv_iload_n hx hb dX12_starts_11 rfl (lv_at hl 1 rfl) ?_
  refine lv_aload_n hx hb dX12_starts_12 rfl (lv_at hl 0 rfl) ?_
  refine gR X hI fdX12_13 (la_99 hn) rf12_3 dX12_starts_13 ?_
  refine lv_bipush (v := (6 : Int32)) hx hb dX12_starts_16 (by decide) ?_
  refine aIc (j := 6) X hI (la_101 hn) (by decide) (by decide) dX12_starts_18 ?_
  obtain ⟨g2, hm⟩ := g_no hm
  refine sI X hI (la_124 hn) g2 dX12_starts_19 (fun H locs hI => ?_)
  refine lv_aload_n hx hb dX12_starts_20 rfl (lv_at hl 0 rfl) ?_
  refine gR X hI fdX12_90 (la_99 hn) rf12_41 dX12_starts_21 ?_
  refine lv_iload_n hx hb dX12_starts_24 rfl (lv_at hl 1 rfl) ?_
  refine lv_iconst (v := (0 : Int32)) hx hb dX12_starts_25 (by decide) ?_
  obtain ⟨g3, hm⟩ := g_no hm
  refine sI X hI (la_125 hn) g3 dX12_starts_26 (fun H locs hI => ?_)
  refine lv_iconst (v := (0 : Int32)) hx hb dX12_starts_27 (by decide) ?_
  refine lv_istore_n (lv' := [(2, .int (0 : Int32)), (0, .ref (ad 99)), (1, .int x1)]) hx hb dX12_starts_28 rfl hl (by decide) rfl (fun ls hl => ?_)
  exact tX12_starts_29 N hn X hr fin  N x1 (0 : Int32) (mI (mI (mI m 123 x1.toNatClampNeg (0 : Int32)) 124 x1.toNatClampNeg ((mI m 123 x1.toNatClampNeg (0 : Int32)).1 101 6)) 125 x1.toNatClampNeg (0 : Int32)) H locs ls hI (lv_sub hl [1, 2, 0] rfl) hm
