abbrev rmX8_readLine : Room := { frames := 5, cells := 0, slots := 0, locals := 113 }
def fX8_readLine_151 (N : Nat) (x2 : Int32) (m : Mem) : Option (Int32 × Mem) := if x2 = 0 then (some ((0 : Int32), m)) else (if (m.1 5 4) = (22 : Int32) then ((fX10_advance N m).bind (fun q6 => some ((1 : Int32), q6))) else ((fX8_fail (1 : Int32) m).bind (fun q8 => if q8.1 = 0 ∨ q8.1 = 1 then (some (q8.1, q8.2)) else none)))
set_option maxHeartbeats 4000000 in
set_option maxRecDepth 100000 in
theorem tX8_readLine_151 (N : Nat) {l : Launch} {D : va_G} {ca : Nat → ClassId} {ad : Nat → Nat} {p : Program} {e : Env} {s : State} {mm : MethodId} {args : Array Value} {below : List Frame} {meth : Method} {c : Code}  (hn : HNc ca) (X : CX p s mm args meth c cX8_readLine 3 RX8 D ca ad (WA ca ad s.heap.size)) (hr : meth.sig.returnType = (some .boolean)) (fin : (Int32 × Mem))  : ∀ (x2 : Int32) (m : Mem) (H : Heap) (locs : List Loc) (ls : Array Slot), IW D ca ad (WA ca ad s.heap.size) s m H locs → lv_has ls 3 [(0, .ref (ad 2)), (2, .int x2)] → fX8_readLine_151 N x2 m = some fin → W p l e rmX8_readLine s mm args below meth c H locs 0 0 (MQ below (QI D ca ad s.heap.size fin.1 fin.2) args s 0 0 (WA ca ad s.heap.size)) (F0 mm 151 ls []) := by
  have hx := X.1
  have hb := X.2.1
  intro x2 m H locs ls hI hl hm
  have hm : (if x2 = 0 then (some ((0 : Int32), m)) else (if (m.1 5 4) = (22 : Int32) then ((fX10_advance N m).bind (fun q6 => some ((1 : Int32), q6))) else ((fX8_fail (1 : Int32) m).bind (fun q8 => if q8.1 = 0 ∨ q8.1 = 1 then (some (q8.1, q8.2)) else none)))) = some fin := hm
  refine lv_iload_n hx hb dX8_readLine_151 rfl (lv_at hl 1 rfl) ?_
  refine lv_if_ne (tgt := 157) hx hb dX8_readLine_152 (by decide) (fun c4 => ?_) (fun c4 => ?_)
  · have hm := g_f c4 hm
    refine lv_aload_n hx hb dX8_readLine_157 rfl (lv_at hl 0 rfl) ?_
    refine gR X hI fdX8_30 (la_2 hn) rf8_0 dX8_readLine_158 ?_
    refine gI X hI fdX8_46 (la_5 hn) dX8_readLine_161 ?_
    refine lv_bipush (v := (22 : Int32)) hx hb dX8_readLine_164 (by decide) ?_
    refine lv_icmp_eq (tgt := 175) hx hb dX8_readLine_166 (by decide) (fun c5 => ?_) (fun c5 => ?_)
    · have hm := g_t c5 hm
      refine lv_aload_n hx hb dX8_readLine_175 rfl (lv_at hl 0 rfl) ?_
      refine gR X hI fdX8_30 (la_2 hn) rf8_0 dX8_readLine_176 ?_
      obtain ⟨q6, h7, hm⟩ := g_b hm
      refine backV X hI (runV X hI (ctX10_advance N  hn _ _ h7 _) mdX8_110 (la_5 hn) rfl ⟨rfl, rfl⟩ ⟨Nat.le_of_ble_eq_true rfl, Nat.le_of_ble_eq_true rfl⟩ rfl hl.1 rfl (Nat.le_of_ble_eq_true rfl) dX8_readLine_179) (fun H locs hI => ?_)
      refine lv_iconst (v := (1 : Int32)) hx hb dX8_readLine_182 (by decide) ?_
      exact rZ X hI hr (by decide) (g_p hm).1 (g_p hm).2 dX8_readLine_183
    · have hm := g_f c5 hm
      refine lv_aload_n hx hb dX8_readLine_169 rfl (lv_at hl 0 rfl) ?_
      refine lv_iconst (v := (1 : Int32)) hx hb dX8_readLine_170 (by decide) ?_
      obtain ⟨q8, h9, hm⟩ := g_b hm
      refine backI X hI (runV X hI (ctX8_fail (1 : Int32)  hn _ _ h9 _) mdX8_106 (la_2 hn) rfl ⟨rfl, rfl⟩ ⟨Nat.le_of_ble_eq_true rfl, Nat.le_of_ble_eq_true rfl⟩ rfl hl.1 rfl (Nat.le_of_ble_eq_true rfl) dX8_readLine_171) (fun H locs hI => ?_)
      obtain ⟨g10, hm⟩ := g_is hm
      exact rZ X hI hr g10 (g_p hm).1 (g_p hm).2 dX8_readLine_174
  · have hm := g_t c4 hm
    refine lv_iconst (v := (0 : Int32)) hx hb dX8_readLine_155 (by decide) ?_
    exact rZ X hI hr (by decide) (g_p hm).1 (g_p hm).2 dX8_readLine_156
def fX8_readLine (N : Nat) (x1 : Nat) (m : Mem) : Option (Int32 × Mem) := if (m.1 5 4) = (0 : Int32) then ((fX8_readKnight N (x1 + 1) m).bind (fun q2 => fX8_readLine_151 N q2.1 q2.2)) else (if (m.1 5 4) = (1 : Int32) then ((fX8_readTub N (x1 + 3) m).bind (fun q12 => fX8_readLine_151 N q12.1 q12.2)) else (if (m.1 5 4) = (2 : Int32) then ((fX8_readSitting N x1 (x1 + 5) m).bind (fun q15 => fX8_readLine_151 N q15.1 q15.2)) else (if (m.1 5 4) = (3 : Int32) then ((fX8_readCan N x1 (x1 + 7) m).bind (fun q18 => fX8_readLine_151 N q18.1 q18.2)) else (if (m.1 5 4) = (4 : Int32) then ((fX8_readPipe N x1 (x1 + 9) m).bind (fun q21 => fX8_readLine_151 N q21.1 q21.2)) else (if (m.1 5 4) = (5 : Int32) then ((fX8_readFlinch N x1 m).bind (fun q24 => fX8_readLine_151 N q24.1 q24.2)) else (if (m.1 5 4) = (6 : Int32) then ((fX8_readSeed N x1 m).bind (fun q27 => fX8_readLine_151 N q27.1 q27.2)) else (if (m.1 5 4) = (7 : Int32) then ((fX8_readLaw N (x1 + 11) m).bind (fun q30 => fX8_readLine_151 N q30.1 q30.2)) else ((fX8_fail (1 : Int32) m).bind (fun q32 => if q32.1 = 0 ∨ q32.1 = 1 then (some (q32.1, q32.2)) else none)))))))))
set_option maxHeartbeats 4000000 in
set_option maxRecDepth 100000 in
theorem ctX8_readLine {l : Launch} {D : va_G} {ca : Nat → ClassId} {ad : Nat → Nat} (N : Nat) (x1 : Nat) (hx1 : ly ca x1 = (0, 6)) (hn : HNc ca) (m : Mem) (fin : (Int32 × Mem)) (hm : fX8_readLine N x1 m = some fin) : CI l D ca ad yX8_readLine cwX8_readLine rmX8_readLine [.ref (ad 2), .ref (ad x1)] m fin.1 fin.2 := by
  refine start (by decide) (Nat.le_of_ble_eq_true rfl) ?_
  intro p e s mm args below meth c H locs ls X hI hr hl
  have X : CX p s mm args meth c cX8_readLine 3 RX8 D ca ad (WA ca ad s.heap.size) := X
  have hx := X.1
  have hb := X.2.1
  have hl : lv_has ls 3 [(0, .ref (ad 2)), (1, .ref (ad x1))] := hl
  have hm : (if (m.1 5 4) = (0 : Int32) then ((fX8_readKnight N (x1 + 1) m).bind (fun q2 => fX8_readLine_151 N q2.1 q2.2)) else (if (m.1 5 4) = (1 : Int32) then ((fX8_readTub N (x1 + 3) m).bind (fun q12 => fX8_readLine_151 N q12.1 q12.2)) else (if (m.1 5 4) = (2 : Int32) then ((fX8_readSitting N x1 (x1 + 5) m).bind (fun q15 => fX8_readLine_151 N q15.1 q15.2)) else (if (m.1 5 4) = (3 : Int32) then ((fX8_readCan N x1 (x1 + 7) m).bind (fun q18 => fX8_readLine_151 N q18.1 q18.2)) else (if (m.1 5 4) = (4 : Int32) then ((fX8_readPipe N x1 (x1 + 9) m).bind (fun q21 => fX8_readLine_151 N q21.1 q21.2)) else (if (m.1 5 4) = (5 : Int32) then ((fX8_readFlinch N x1 m).bind (fun q24 => fX8_readLine_151 N q24.1 q24.2)) else (if (m.1 5 4) = (6 : Int32) then ((fX8_readSeed N x1 m).bind (fun q27 => fX8_readLine_151 N q27.1 q27.2)) else (if (m.1 5 4) = (7 : Int32) then ((fX8_readLaw N (x1 + 11) m).bind (fun q30 => fX8_readLine_151 N q30.1 q30.2)) else ((fX8_fail (1 : Int32) m).bind (fun q32 => if q32.1 = 0 ∨ q32.1 = 1 then (some (q32.1, q32.2)) else none)))))))))) = some fin := hm
  refine lv_aload_n hx hb dX8_readLine_0 rfl (lv_at hl 0 rfl) ?_
  refine gR X hI fdX8_30 (la_2 hn) rf8_0 dX8_readLine_1 ?_
  refine gI X hI fdX8_46 (la_5 hn) dX8_readLine_4 ?_
  by_cases c1 : (m.1 5 4) = (0 : Int32)
  · have hm := g_t c1 hm
    refine lv_tableIn (tgt := 52) hx hb dX8_readLine_7 (by rw [c1]; decide) (by rw [c1]; decide) (off := 45) (by rw [c1]; decide) (by decide) ?_
    refine lv_aload_n hx hb dX8_readLine_52 rfl (lv_at hl 0 rfl) ?_
    refine lv_aload_n hx hb dX8_readLine_53 rfl (lv_at hl 1 rfl) ?_
    refine gR X hI fdX8_59 hx1 rf6_0 dX8_readLine_54 ?_
    obtain ⟨q2, h3, hm⟩ := g_b hm
    refine backI X hI (runV X hI (ctX8_readKnight N (x1 + 1) (lf6_0 hn hx1) hn _ _ h3 _) mdX8_63 (la_2 hn) rfl ⟨rfl, rfl⟩ ⟨Nat.le_of_ble_eq_true rfl, Nat.le_of_ble_eq_true rfl⟩ rfl hl.1 rfl (Nat.le_of_ble_eq_true rfl) dX8_readLine_57) (fun H locs hI => ?_)
    refine lv_istore_n (lv' := [(2, .int q2.1), (0, .ref (ad 2)), (1, .ref (ad x1))]) hx hb dX8_readLine_60 rfl hl (by decide) rfl (fun ls hl => ?_)
    refine lv_goto (tgt := 151) hx hb dX8_readLine_61 (by decide) ?_
    exact tX8_readLine_151 N hn X hr fin  q2.1 q2.2 H locs ls hI (lv_sub hl [1, 0] rfl) hm
  · have hm := g_f c1 hm
    by_cases c11 : (m.1 5 4) = (1 : Int32)
    · have hm := g_t c11 hm
      refine lv_tableIn (tgt := 64) hx hb dX8_readLine_7 (by rw [c11]; decide) (by rw [c11]; decide) (off := 57) (by rw [c11]; decide) (by decide) ?_
      refine lv_aload_n hx hb dX8_readLine_64 rfl (lv_at hl 0 rfl) ?_
      refine lv_aload_n hx hb dX8_readLine_65 rfl (lv_at hl 1 rfl) ?_
      refine gR X hI fdX8_67 hx1 rf6_1 dX8_readLine_66 ?_
      obtain ⟨q12, h13, hm⟩ := g_b hm
      refine backI X hI (runV X hI (ctX8_readTub N (x1 + 3) (lf6_1 hn hx1) hn _ _ h13 _) mdX8_70 (la_2 hn) rfl ⟨rfl, rfl⟩ ⟨Nat.le_of_ble_eq_true rfl, Nat.le_of_ble_eq_true rfl⟩ rfl hl.1 rfl (Nat.le_of_ble_eq_true rfl) dX8_readLine_69) (fun H locs hI => ?_)
      refine lv_istore_n (lv' := [(2, .int q12.1), (0, .ref (ad 2)), (1, .ref (ad x1))]) hx hb dX8_readLine_72 rfl hl (by decide) rfl (fun ls hl => ?_)
      refine lv_goto (tgt := 151) hx hb dX8_readLine_73 (by decide) ?_
      exact tX8_readLine_151 N hn X hr fin  q12.1 q12.2 H locs ls hI (lv_sub hl [1, 0] rfl) hm
    · have hm := g_f c11 hm
      by_cases c14 : (m.1 5 4) = (2 : Int32)
      · have hm := g_t c14 hm
        refine lv_tableIn (tgt := 76) hx hb dX8_readLine_7 (by rw [c14]; decide) (by rw [c14]; decide) (off := 69) (by rw [c14]; decide) (by decide) ?_
        refine lv_aload_n hx hb dX8_readLine_76 rfl (lv_at hl 0 rfl) ?_
        refine lv_aload_n hx hb dX8_readLine_77 rfl (lv_at hl 1 rfl) ?_
        refine lv_aload_n hx hb dX8_readLine_78 rfl (lv_at hl 1 rfl) ?_
        refine gR X hI fdX8_73 hx1 rf6_2 dX8_readLine_79 ?_
        obtain ⟨q15, h16, hm⟩ := g_b hm
        refine backI X hI (runV X hI (ctX8_readSitting N x1 (x1 + 5) hx1 (lf6_2 hn hx1) hn _ _ h16 _) mdX8_76 (la_2 hn) rfl ⟨rfl, rfl⟩ ⟨Nat.le_of_ble_eq_true rfl, Nat.le_of_ble_eq_true rfl⟩ rfl hl.1 rfl (Nat.le_of_ble_eq_true rfl) dX8_readLine_82) (fun H locs hI => ?_)
        refine lv_istore_n (lv' := [(2, .int q15.1), (0, .ref (ad 2)), (1, .ref (ad x1))]) hx hb dX8_readLine_85 rfl hl (by decide) rfl (fun ls hl => ?_)
        refine lv_goto (tgt := 151) hx hb dX8_readLine_86 (by decide) ?_
        exact tX8_readLine_151 N hn X hr fin  q15.1 q15.2 H locs ls hI (lv_sub hl [1, 0] rfl) hm
      · have hm := g_f c14 hm
        by_cases c17 : (m.1 5 4) = (3 : Int32)
        · have hm := g_t c17 hm
          refine lv_tableIn (tgt := 89) hx hb dX8_readLine_7 (by rw [c17]; decide) (by rw [c17]; decide) (off := 82) (by rw [c17]; decide) (by decide) ?_
          refine lv_aload_n hx hb dX8_readLine_89 rfl (lv_at hl 0 rfl) ?_
          refine lv_aload_n hx hb dX8_readLine_90 rfl (lv_at hl 1 rfl) ?_
          refine lv_aload_n hx hb dX8_readLine_91 rfl (lv_at hl 1 rfl) ?_
          refine gR X hI fdX8_80 hx1 rf6_3 dX8_readLine_92 ?_
          obtain ⟨q18, h19, hm⟩ := g_b hm
          refine backI X hI (runV X hI (ctX8_readCan N x1 (x1 + 7) hx1 (lf6_3 hn hx1) hn _ _ h19 _) mdX8_83 (la_2 hn) rfl ⟨rfl, rfl⟩ ⟨Nat.le_of_ble_eq_true rfl, Nat.le_of_ble_eq_true rfl⟩ rfl hl.1 rfl (Nat.le_of_ble_eq_true rfl) dX8_readLine_95) (fun H locs hI => ?_)
          refine lv_istore_n (lv' := [(2, .int q18.1), (0, .ref (ad 2)), (1, .ref (ad x1))]) hx hb dX8_readLine_98 rfl hl (by decide) rfl (fun ls hl => ?_)
          refine lv_goto (tgt := 151) hx hb dX8_readLine_99 (by decide) ?_
          exact tX8_readLine_151 N hn X hr fin  q18.1 q18.2 H locs ls hI (lv_sub hl [1, 0] rfl) hm
        · have hm := g_f c17 hm
          by_cases c20 : (m.1 5 4) = (4 : Int32)
          · have hm := g_t c20 hm
            refine lv_tableIn (tgt := 102) hx hb dX8_readLine_7 (by rw [c20]; decide) (by rw [c20]; decide) (off := 95) (by rw [c20]; decide) (by decide) ?_
            refine lv_aload_n hx hb dX8_readLine_102 rfl (lv_at hl 0 rfl) ?_
            refine lv_aload_n hx hb dX8_readLine_103 rfl (lv_at hl 1 rfl) ?_
            refine lv_aload_n hx hb dX8_readLine_104 rfl (lv_at hl 1 rfl) ?_
            refine gR X hI fdX8_86 hx1 rf6_4 dX8_readLine_105 ?_
            obtain ⟨q21, h22, hm⟩ := g_b hm
            refine backI X hI (runV X hI (ctX8_readPipe N x1 (x1 + 9) hx1 (lf6_4 hn hx1) hn _ _ h22 _) mdX8_89 (la_2 hn) rfl ⟨rfl, rfl⟩ ⟨Nat.le_of_ble_eq_true rfl, Nat.le_of_ble_eq_true rfl⟩ rfl hl.1 rfl (Nat.le_of_ble_eq_true rfl) dX8_readLine_108) (fun H locs hI => ?_)
            refine lv_istore_n (lv' := [(2, .int q21.1), (0, .ref (ad 2)), (1, .ref (ad x1))]) hx hb dX8_readLine_111 rfl hl (by decide) rfl (fun ls hl => ?_)
            refine lv_goto (tgt := 151) hx hb dX8_readLine_112 (by decide) ?_
            exact tX8_readLine_151 N hn X hr fin  q21.1 q21.2 H locs ls hI (lv_sub hl [1, 0] rfl) hm
          · have hm := g_f c20 hm
            by_cases c23 : (m.1 5 4) = (5 : Int32)
            · have hm := g_t c23 hm
              refine lv_tableIn (tgt := 115) hx hb dX8_readLine_7 (by rw [c23]; decide) (by rw [c23]; decide) (off := 108) (by rw [c23]; decide) (by decide) ?_
              refine lv_aload_n hx hb dX8_readLine_115 rfl (lv_at hl 0 rfl) ?_
              refine lv_aload_n hx hb dX8_readLine_116 rfl (lv_at hl 1 rfl) ?_
              obtain ⟨q24, h25, hm⟩ := g_b hm
              refine backI X hI (runV X hI (ctX8_readFlinch N x1 hx1 hn _ _ h25 _) mdX8_92 (la_2 hn) rfl ⟨rfl, rfl⟩ ⟨Nat.le_of_ble_eq_true rfl, Nat.le_of_ble_eq_true rfl⟩ rfl hl.1 rfl (Nat.le_of_ble_eq_true rfl) dX8_readLine_117) (fun H locs hI => ?_)
              refine lv_istore_n (lv' := [(2, .int q24.1), (0, .ref (ad 2)), (1, .ref (ad x1))]) hx hb dX8_readLine_120 rfl hl (by decide) rfl (fun ls hl => ?_)
              refine lv_goto (tgt := 151) hx hb dX8_readLine_121 (by decide) ?_
              exact tX8_readLine_151 N hn X hr fin  q24.1 q24.2 H locs ls hI (lv_sub hl [1, 0] rfl) hm
            · have hm := g_f c23 hm
              by_cases c26 : (m.1 5 4) = (6 : Int32)
              · have hm := g_t c26 hm
                refine lv_tableIn (tgt := 124) hx hb dX8_readLine_7 (by rw [c26]; decide) (by rw [c26]; decide) (off := 117) (by rw [c26]; decide) (by decide) ?_
                refine lv_aload_n hx hb dX8_readLine_124 rfl (lv_at hl 0 rfl) ?_
                refine lv_aload_n hx hb dX8_readLine_125 rfl (lv_at hl 1 rfl) ?_
                obtain ⟨q27, h28, hm⟩ := g_b hm
                refine backI X hI (runV X hI (ctX8_readSeed N x1 hx1 hn _ _ h28 _) mdX8_95 (la_2 hn) rfl ⟨rfl, rfl⟩ ⟨Nat.le_of_ble_eq_true rfl, Nat.le_of_ble_eq_true rfl⟩ rfl hl.1 rfl (Nat.le_of_ble_eq_true rfl) dX8_readLine_126) (fun H locs hI => ?_)
                refine lv_istore_n (lv' := [(2, .int q27.1), (0, .ref (ad 2)), (1, .ref (ad x1))]) hx hb dX8_readLine_129 rfl hl (by decide) rfl (fun ls hl => ?_)
                refine lv_goto (tgt := 151) hx hb dX8_readLine_130 (by decide) ?_
                exact tX8_readLine_151 N hn X hr fin  q27.1 q27.2 H locs ls hI (lv_sub hl [1, 0] rfl) hm
              · have hm := g_f c26 hm
                by_cases c29 : (m.1 5 4) = (7 : Int32)
                · have hm := g_t c29 hm
                  refine lv_tableIn (tgt := 133) hx hb dX8_readLine_7 (by rw [c29]; decide) (by rw [c29]; decide) (off := 126) (by rw [c29]; decide) (by decide) ?_
                  refine lv_aload_n hx hb dX8_readLine_133 rfl (lv_at hl 0 rfl) ?_
                  refine lv_aload_n hx hb dX8_readLine_134 rfl (lv_at hl 1 rfl) ?_
                  refine gR X hI fdX8_98 hx1 rf6_5 dX8_readLine_135 ?_
                  obtain ⟨q30, h31, hm⟩ := g_b hm
                  refine backI X hI (runV X hI (ctX8_readLaw N (x1 + 11) (lf6_5 hn hx1) hn _ _ h31 _) mdX8_102 (la_2 hn) rfl ⟨rfl, rfl⟩ ⟨Nat.le_of_ble_eq_true rfl, Nat.le_of_ble_eq_true rfl⟩ rfl hl.1 rfl (Nat.le_of_ble_eq_true rfl) dX8_readLine_138) (fun H locs hI => ?_)
                  refine lv_istore_n (lv' := [(2, .int q30.1), (0, .ref (ad 2)), (1, .ref (ad x1))]) hx hb dX8_readLine_141 rfl hl (by decide) rfl (fun ls hl => ?_)
                  refine lv_goto (tgt := 151) hx hb dX8_readLine_142 (by decide) ?_
                  exact tX8_readLine_151 N hn X hr fin  q30.1 q30.2 H locs ls hI (lv_sub hl [1, 0] rfl) hm
                · have hm := g_f c29 hm
                  have ec1 := lv_neT c1 (a := 0) (by decide)
                  have ec11 := lv_neT c11 (a := 1) (by decide)
                  have ec14 := lv_neT c14 (a := 2) (by decide)
                  have ec17 := lv_neT c17 (a := 3) (by decide)
                  have ec20 := lv_neT c20 (a := 4) (by decide)
                  have ec23 := lv_neT c23 (a := 5) (by decide)
                  have ec26 := lv_neT c26 (a := 6) (by decide)
                  have ec29 := lv_neT c29 (a := 7) (by decide)
                  refine lv_tableOut (tgt := 145) hx hb dX8_readLine_7 (by omega) (by decide) ?_
                  refine lv_aload_n hx hb dX8_readLine_145 rfl (lv_at hl 0 rfl) ?_
                  refine lv_iconst (v := (1 : Int32)) hx hb dX8_readLine_146 (by decide) ?_
                  obtain ⟨q32, h33, hm⟩ := g_b hm
                  refine backI X hI (runV X hI (ctX8_fail (1 : Int32)  hn _ _ h33 _) mdX8_106 (la_2 hn) rfl ⟨rfl, rfl⟩ ⟨Nat.le_of_ble_eq_true rfl, Nat.le_of_ble_eq_true rfl⟩ rfl hl.1 rfl (Nat.le_of_ble_eq_true rfl) dX8_readLine_147) (fun H locs hI => ?_)
                  obtain ⟨g34, hm⟩ := g_is hm
                  exact rZ X hI hr g34 (g_p hm).1 (g_p hm).2 dX8_readLine_150
abbrev rmX8_readAll : Room := { frames := 6, cells := 0, slots := 0, locals := 135 }
def fX8_readAll_24 (N : Nat) : Nat → Int32 → Nat → Int32 → Mem → Option (Int32 × Mem)
  | 0, _, _, _, _ => none
  | n + 1, x1, x2, x3, m => if x1 ≤ x3 then (some ((1 : Int32), m)) else (if (m.1 5 4) = (-1 : Int32) then (some ((1 : Int32), m)) else ((fX8_readLine N x2 m).bind (fun q7 => if q7.1 = 0 then (some ((0 : Int32), q7.2)) else (fX8_readAll_24 N n x1 x2 (x3 + (1 : Int32)) (mI q7.2 x2 10 ((q7.2.1 x2 10) + (1 : Int32)))))))
set_option maxHeartbeats 4000000 in
set_option maxRecDepth 100000 in
theorem tX8_readAll_24 (N : Nat) {l : Launch} {D : va_G} {ca : Nat → ClassId} {ad : Nat → Nat} {p : Program} {e : Env} {s : State} {mm : MethodId} {args : Array Value} {below : List Frame} {meth : Method} {c : Code}  (hn : HNc ca) (X : CX p s mm args meth c cX8_readAll 4 RX8 D ca ad (WA ca ad s.heap.size)) (hr : meth.sig.returnType = (some .boolean)) (fin : (Int32 × Mem))  : ∀ (n : Nat) (x1 : Int32) (x2 : Nat) (x3 : Int32) (m : Mem) (H : Heap) (locs : List Loc) (ls : Array Slot), ly ca x2 = (0, 6) → IW D ca ad (WA ca ad s.heap.size) s m H locs → lv_has ls 4 [(0, .ref (ad 2)), (1, .int x1), (2, .ref (ad x2)), (3, .int x3)] → fX8_readAll_24 N n x1 x2 x3 m = some fin → W p l e rmX8_readAll s mm args below meth c H locs 0 0 (MQ below (QI D ca ad s.heap.size fin.1 fin.2) args s 0 0 (WA ca ad s.heap.size)) (F0 mm 24 ls []) := by
  have hx := X.1
  have hb := X.2.1
  intro n
  induction n with
  | zero => intro x1 x2 x3 m H locs ls hx2 hI hl hm
            exact absurd hm (by intro q; cases q)
  | succ n ih =>
    intro x1 x2 x3 m H locs ls hx2 hI hl hm
    have hm : (if x1 ≤ x3 then (some ((1 : Int32), m)) else (if (m.1 5 4) = (-1 : Int32) then (some ((1 : Int32), m)) else ((fX8_readLine N x2 m).bind (fun q7 => if q7.1 = 0 then (some ((0 : Int32), q7.2)) else (fX8_readAll_24 N n x1 x2 (x3 + (1 : Int32)) (mI q7.2 x2 10 ((q7.2.1 x2 10) + (1 : Int32)))))))) = some fin := hm
    refine lv_iload_n hx hb dX8_readAll_24 rfl (lv_at hl 3 rfl) ?_
    refine lv_iload_n hx hb dX8_readAll_25 rfl (lv_at hl 1 rfl) ?_
    refine lv_icmp_ge (tgt := 66) hx hb dX8_readAll_26 (by decide) (fun c5 => ?_) (fun c5 => ?_)
    · have hm := g_t c5 hm
      refine lv_iconst (v := (1 : Int32)) hx hb dX8_readAll_66 (by decide) ?_
      exact rZ X hI hr (by decide) (g_p hm).1 (g_p hm).2 dX8_readAll_67
    · have hm := g_f c5 hm
      refine lv_aload_n hx hb dX8_readAll_29 rfl (lv_at hl 0 rfl) ?_
      refine gR X hI fdX8_30 (la_2 hn) rf8_0 dX8_readAll_30 ?_
      refine gI X hI fdX8_46 (la_5 hn) dX8_readAll_33 ?_
      refine lv_iconst (v := (-1 : Int32)) hx hb dX8_readAll_36 (by decide) ?_
      refine lv_icmp_eq (tgt := 66) hx hb dX8_readAll_37 (by decide) (fun c6 => ?_) (fun c6 => ?_)
      · have hm := g_t c6 hm
        refine lv_iconst (v := (1 : Int32)) hx hb dX8_readAll_66 (by decide) ?_
        exact rZ X hI hr (by decide) (g_p hm).1 (g_p hm).2 dX8_readAll_67
      · have hm := g_f c6 hm
        refine lv_aload_n hx hb dX8_readAll_40 rfl (lv_at hl 0 rfl) ?_
        refine lv_aload_n hx hb dX8_readAll_41 rfl (lv_at hl 2 rfl) ?_
        obtain ⟨q7, h8, hm⟩ := g_b hm
        refine backI X hI (runV X hI (ctX8_readLine N x2 hx2 hn _ _ h8 _) mdX8_49 (la_2 hn) rfl ⟨rfl, rfl⟩ ⟨Nat.le_of_ble_eq_true rfl, Nat.le_of_ble_eq_true rfl⟩ rfl hl.1 rfl (Nat.le_of_ble_eq_true rfl) dX8_readAll_42) (fun H locs hI => ?_)
        refine lv_if_ne (tgt := 50) hx hb dX8_readAll_45 (by decide) (fun c9 => ?_) (fun c9 => ?_)
        · have hm := g_f c9 hm
          refine lv_aload_n hx hb dX8_readAll_50 rfl (lv_at hl 2 rfl) ?_
          refine lv_dup hx hb dX8_readAll_51 rfl ?_
          refine gI X hI fdX8_53 hx2 dX8_readAll_52 ?_
          refine lv_iconst (v := (1 : Int32)) hx hb dX8_readAll_55 (by decide) ?_
          refine lv_iadd hx hb dX8_readAll_56 ?_
          refine pI X hI fpX8_53 hx2 dX8_readAll_57 (fun H locs hI => ?_)
          refine lv_iinc (v := (x3 + (1 : Int32))) (lv' := [(3, .int (x3 + (1 : Int32))), (0, .ref (ad 2)), (1, .int x1), (2, .ref (ad x2))]) hx hb dX8_readAll_60 hl (k := 3) rfl rfl (by decide) rfl (fun ls hl => ?_)
          refine lv_goto (tgt := 24) hx hb dX8_readAll_63 (by decide) ?_
          exact ih x1 x2 (x3 + (1 : Int32)) (mI q7.2 x2 10 ((q7.2.1 x2 10) + (1 : Int32))) H locs ls hx2 hI (lv_sub hl [1, 2, 3, 0] rfl) hm
        · have hm := g_t c9 hm
          refine lv_iconst (v := (0 : Int32)) hx hb dX8_readAll_48 (by decide) ?_
          exact rZ X hI hr (by decide) (g_p hm).1 (g_p hm).2 dX8_readAll_49
def fX8_readAll (N : Nat) (x1 : Int32) (x2 : Nat) (m : Mem) : Option (Int32 × Mem) := (fX6_forget N x2 (mI (mI m 2 7 (0 : Int32)) 2 8 (-1 : Int32))).bind (fun q1 => (fX10_start N x1 q1).bind (fun q3 => fX8_readAll_24 N N x1 x2 (0 : Int32) q3))
set_option maxHeartbeats 4000000 in
set_option maxRecDepth 100000 in
theorem ctX8_readAll {l : Launch} {D : va_G} {ca : Nat → ClassId} {ad : Nat → Nat} (N : Nat) (x1 : Int32) (x2 : Nat) (hx2 : ly ca x2 = (0, 6)) (hn : HNc ca) (m : Mem) (fin : (Int32 × Mem)) (hm : fX8_readAll N x1 x2 m = some fin) : CI l D ca ad yX8_readAll cwX8_readAll rmX8_readAll [.ref (ad 2), .int x1, .ref (ad x2)] m fin.1 fin.2 := by
  refine start (by decide) (Nat.le_of_ble_eq_true rfl) ?_
  intro p e s mm args below meth c H locs ls X hI hr hl
  have X : CX p s mm args meth c cX8_readAll 4 RX8 D ca ad (WA ca ad s.heap.size) := X
  have hx := X.1
  have hb := X.2.1
  have hl : lv_has ls 4 [(0, .ref (ad 2)), (1, .int x1), (2, .ref (ad x2))] := hl
  have hm : ((fX6_forget N x2 (mI (mI m 2 7 (0 : Int32)) 2 8 (-1 : Int32))).bind (fun q1 => (fX10_start N x1 q1).bind (fun q3 => fX8_readAll_24 N N x1 x2 (0 : Int32) q3))) = some fin := hm
  refine lv_aload_n hx hb dX8_readAll_0 rfl (lv_at hl 0 rfl) ?_
  refine lv_iconst (v := (0 : Int32)) hx hb dX8_readAll_1 (by decide) ?_
  refine pI X hI fpX8_34 (la_2 hn) dX8_readAll_2 (fun H locs hI => ?_)
  refine lv_aload_n hx hb dX8_readAll_5 rfl (lv_at hl 0 rfl) ?_
  refine lv_iconst (v := (-1 : Int32)) hx hb dX8_readAll_6 (by decide) ?_
  refine pI X hI fpX8_21 (la_2 hn) dX8_readAll_7 (fun H locs hI => ?_)
  refine lv_aload_n hx hb dX8_readAll_10 rfl (lv_at hl 2 rfl) ?_
  obtain ⟨q1, h2, hm⟩ := g_b hm
  refine backV X hI (runV X hI (ctX6_forget N x2 hx2 hn _ _ h2 _) mdX8_37 hx2 rfl ⟨rfl, rfl⟩ ⟨Nat.le_of_ble_eq_true rfl, Nat.le_of_ble_eq_true rfl⟩ rfl hl.1 rfl (Nat.le_of_ble_eq_true rfl) dX8_readAll_11) (fun H locs hI => ?_)
  refine lv_aload_n hx hb dX8_readAll_14 rfl (lv_at hl 0 rfl) ?_
  refine gR X hI fdX8_30 (la_2 hn) rf8_0 dX8_readAll_15 ?_
  refine lv_iload_n hx hb dX8_readAll_18 rfl (lv_at hl 1 rfl) ?_
  obtain ⟨q3, h4, hm⟩ := g_b hm
  refine backV X hI (runV X hI (ctX10_start N x1  hn _ _ h4 _) mdX8_42 (la_5 hn) rfl ⟨rfl, rfl⟩ ⟨Nat.le_of_ble_eq_true rfl, Nat.le_of_ble_eq_true rfl⟩ rfl hl.1 rfl (Nat.le_of_ble_eq_true rfl) dX8_readAll_19) (fun H locs hI => ?_)
  refine lv_iconst (v := (0 : Int32)) hx hb dX8_readAll_22 (by decide) ?_
  refine lv_istore_n (lv' := [(3, .int (0 : Int32)), (0, .ref (ad 2)), (1, .int x1), (2, .ref (ad x2))]) hx hb dX8_readAll_23 rfl hl (by decide) rfl (fun ls hl => ?_)
  exact tX8_readAll_24 N hn X hr fin  N x1 x2 (0 : Int32) q3 H locs ls hx2 hI (lv_sub hl [1, 2, 3, 0] rfl) hm
abbrev rmX11_putBytes : Room := { frames := 0, cells := 0, slots := 0, locals := 0 }
def fX11_putBytes_3 (N : Nat) : Nat → Int32 → Int32 → Mem → Option Mem
  | 0, _, _, _ => none
  | n + 1, x1, x2, m => if x2 < 0 then (some m) else (if (m.1 0 1) < 0 then (fX11_putBytes_3 N n x1 (x2 + (-8 : Int32)) m) else (if (Int32.ofNat 700) ≤ (m.1 0 1) then (fX11_putBytes_3 N n x1 (x2 + (-8 : Int32)) m) else (if (m.1 0 1) < 0 ∨ 700 ≤ (m.1 0 1).toNatClampNeg then none else (fX11_putBytes_3 N n x1 (x2 + (-8 : Int32)) (mI (mI m 1 (m.1 0 1).toNatClampNeg (vp_nar .byte (x1.toUInt32 >>> (x2.toUInt32 &&& Int32.toUInt32 31)).toInt32.toInt8.toInt32)) 0 1 (((mI m 1 (m.1 0 1).toNatClampNeg (vp_nar .byte (x1.toUInt32 >>> (x2.toUInt32 &&& Int32.toUInt32 31)).toInt32.toInt8.toInt32)).1 0 1) + (1 : Int32)))))))
set_option maxHeartbeats 4000000 in
set_option maxRecDepth 100000 in
theorem tX11_putBytes_3 (N : Nat) {l : Launch} {D : va_G} {ca : Nat → ClassId} {ad : Nat → Nat} {p : Program} {e : Env} {s : State} {mm : MethodId} {args : Array Value} {below : List Frame} {meth : Method} {c : Code}  (hn : HNc ca) (X : CX p s mm args meth c cX11_putBytes 3 RX11 D ca ad (WA ca ad s.heap.size)) (hr : meth.sig.returnType = none) (fin : Mem)  : ∀ (n : Nat) (x1 : Int32) (x2 : Int32) (m : Mem) (H : Heap) (locs : List Loc) (ls : Array Slot), IW D ca ad (WA ca ad s.heap.size) s m H locs → lv_has ls 3 [(0, .ref (ad 0)), (1, .int x1), (2, .int x2)] → fX11_putBytes_3 N n x1 x2 m = some fin → W p l e rmX11_putBytes s mm args below meth c H locs 0 0 (MQ below (QV D ca ad s.heap.size fin) args s 0 0 (WA ca ad s.heap.size)) (F0 mm 3 ls []) := by
  have hx := X.1
  have hb := X.2.1
  intro n
  induction n with
  | zero => intro x1 x2 m H locs ls hI hl hm
            exact absurd hm (by intro q; cases q)
  | succ n ih =>
    intro x1 x2 m H locs ls hI hl hm
    have hm : (if x2 < 0 then (some m) else (if (m.1 0 1) < 0 then (fX11_putBytes_3 N n x1 (x2 + (-8 : Int32)) m) else (if (Int32.ofNat 700) ≤ (m.1 0 1) then (fX11_putBytes_3 N n x1 (x2 + (-8 : Int32)) m) else (if (m.1 0 1) < 0 ∨ 700 ≤ (m.1 0 1).toNatClampNeg then none else (fX11_putBytes_3 N n x1 (x2 + (-8 : Int32)) (mI (mI m 1 (m.1 0 1).toNatClampNeg (vp_nar .byte (x1.toUInt32 >>> (x2.toUInt32 &&& Int32.toUInt32 31)).toInt32.toInt8.toInt32)) 0 1 (((mI m 1 (m.1 0 1).toNatClampNeg (vp_nar .byte (x1.toUInt32 >>> (x2.toUInt32 &&& Int32.toUInt32 31)).toInt32.toInt8.toInt32)).1 0 1) + (1 : Int32)))))))) = some fin := hm
    refine lv_iload_n hx hb dX11_putBytes_3 rfl (lv_at hl 2 rfl) ?_
    refine lv_if_lt (tgt := 55) hx hb dX11_putBytes_4 (by decide) (fun c1 => ?_) (fun c1 => ?_)
    · have hm := g_t c1 hm
      exact rV X hI hr (g_1 hm) dX11_putBytes_55
    · have hm := g_f c1 hm
      refine lv_aload_n hx hb dX11_putBytes_7 rfl (lv_at hl 0 rfl) ?_
      refine gI X hI fdX11_86 (la_0 hn) dX11_putBytes_8 ?_
      refine lv_if_lt (tgt := 49) hx hb dX11_putBytes_11 (by decide) (fun c2 => ?_) (fun c2 => ?_)
      · have hm := g_t c2 hm
        refine lv_iinc (v := (x2 + (-8 : Int32))) (lv' := [(2, .int (x2 + (-8 : Int32))), (0, .ref (ad 0)), (1, .int x1)]) hx hb dX11_putBytes_49 hl (k := 2) rfl rfl (by decide) rfl (fun ls hl => ?_)
        refine lv_goto (tgt := 3) hx hb dX11_putBytes_52 (by decide) ?_
        exact ih x1 (x2 + (-8 : Int32)) m H locs ls hI (lv_sub hl [1, 2, 0] rfl) hm
      · have hm := g_f c2 hm
        refine lv_aload_n hx hb dX11_putBytes_14 rfl (lv_at hl 0 rfl) ?_
        refine gI X hI fdX11_86 (la_0 hn) dX11_putBytes_15 ?_
        refine lv_aload_n hx hb dX11_putBytes_18 rfl (lv_at hl 0 rfl) ?_
        refine gR X hI fdX11_11 (la_0 hn) rf11_0 dX11_putBytes_19 ?_
        refine nB X hI (la_1 hn) dX11_putBytes_22 ?_
        refine lv_icmp_ge (tgt := 49) hx hb dX11_putBytes_23 (by decide) (fun c3 => ?_) (fun c3 => ?_)
        · have hm := g_t c3 hm
          refine lv_iinc (v := (x2 + (-8 : Int32))) (lv' := [(2, .int (x2 + (-8 : Int32))), (0, .ref (ad 0)), (1, .int x1)]) hx hb dX11_putBytes_49 hl (k := 2) rfl rfl (by decide) rfl (fun ls hl => ?_)
          refine lv_goto (tgt := 3) hx hb dX11_putBytes_52 (by decide) ?_
          exact ih x1 (x2 + (-8 : Int32)) m H locs ls hI (lv_sub hl [1, 2, 0] rfl) hm
        · have hm := g_f c3 hm
          refine lv_aload_n hx hb dX11_putBytes_26 rfl (lv_at hl 0 rfl) ?_
          refine gR X hI fdX11_11 (la_0 hn) rf11_0 dX11_putBytes_27 ?_
          refine lv_aload_n hx hb dX11_putBytes_30 rfl (lv_at hl 0 rfl) ?_
          refine gI X hI fdX11_86 (la_0 hn) dX11_putBytes_31 ?_
          refine lv_iload_n hx hb dX11_putBytes_34 rfl (lv_at hl 1 rfl) ?_
          refine lv_iload_n hx hb dX11_putBytes_35 rfl (lv_at hl 2 rfl) ?_
          refine lv_iushr hx hb dX11_putBytes_36 rfl ?_
          refine lv_i2b hx hb dX11_putBytes_37 rfl ?_
          obtain ⟨g4, hm⟩ := g_no hm
          refine sB X hI (la_1 hn) g4 dX11_putBytes_38 (fun H locs hI => ?_)
          refine lv_aload_n hx hb dX11_putBytes_39 rfl (lv_at hl 0 rfl) ?_
          refine lv_dup hx hb dX11_putBytes_40 rfl ?_
          refine gI X hI fdX11_86 (la_0 hn) dX11_putBytes_41 ?_
          refine lv_iconst (v := (1 : Int32)) hx hb dX11_putBytes_44 (by decide) ?_
          refine lv_iadd hx hb dX11_putBytes_45 ?_
          refine pI X hI fpX11_86 (la_0 hn) dX11_putBytes_46 (fun H locs hI => ?_)
          refine lv_iinc (v := (x2 + (-8 : Int32))) (lv' := [(2, .int (x2 + (-8 : Int32))), (0, .ref (ad 0)), (1, .int x1)]) hx hb dX11_putBytes_49 hl (k := 2) rfl rfl (by decide) rfl (fun ls hl => ?_)
          refine lv_goto (tgt := 3) hx hb dX11_putBytes_52 (by decide) ?_
          exact ih x1 (x2 + (-8 : Int32)) (mI (mI m 1 (m.1 0 1).toNatClampNeg (vp_nar .byte (x1.toUInt32 >>> (x2.toUInt32 &&& Int32.toUInt32 31)).toInt32.toInt8.toInt32)) 0 1 (((mI m 1 (m.1 0 1).toNatClampNeg (vp_nar .byte (x1.toUInt32 >>> (x2.toUInt32 &&& Int32.toUInt32 31)).toInt32.toInt8.toInt32)).1 0 1) + (1 : Int32))) H locs ls hI (lv_sub hl [1, 2, 0] rfl) hm
def fX11_putBytes (N : Nat) (x1 : Int32) (m : Mem) : Option Mem := fX11_putBytes_3 N N x1 (24 : Int32) m
set_option maxHeartbeats 4000000 in
set_option maxRecDepth 100000 in
theorem ctX11_putBytes {l : Launch} {D : va_G} {ca : Nat → ClassId} {ad : Nat → Nat} (N : Nat) (x1 : Int32)  (hn : HNc ca) (m : Mem) (fin : Mem) (hm : fX11_putBytes N x1 m = some fin) : CV l D ca ad yX11_putBytes cwX11_putBytes rmX11_putBytes [.ref (ad 0), .int x1] m fin := by
  refine start (by decide) (Nat.le_of_ble_eq_true rfl) ?_
  intro p e s mm args below meth c H locs ls X hI hr hl
  have X : CX p s mm args meth c cX11_putBytes 3 RX11 D ca ad (WA ca ad s.heap.size) := X
  have hx := X.1
  have hb := X.2.1
  have hl : lv_has ls 3 [(0, .ref (ad 0)), (1, .int x1)] := hl
  have hm : (fX11_putBytes_3 N N x1 (24 : Int32) m) = some fin := hm
  refine lv_bipush (v := (24 : Int32)) hx hb dX11_putBytes_0 (by decide) ?_
  refine lv_istore_n (lv' := [(2, .int (24 : Int32)), (0, .ref (ad 0)), (1, .int x1)]) hx hb dX11_putBytes_2 rfl hl (by decide) rfl (fun ls hl => ?_)
  exact tX11_putBytes_3 N hn X hr fin  N x1 (24 : Int32) m H locs ls hI (lv_sub hl [1, 2, 0] rfl) hm
abbrev rmX11_feed : Room := { frames := 1, cells := 0, slots := 0, locals := 22 }
abbrev cwX11_feed : Cond := .code yX11_feed cX11_feed 6 (some .int)
theorem cmX11_feed : cwX11_feed ∈ BIG := (tb3 (List.mem_of_getElem? (i := 62) rfl) rfl)
def fX11_feed (N : Nat) (x1 : Int32) (x2 : Int32) (x3 : Int32) (x4 : Int32) (x5 : Int32) (m : Mem) : Option (Int32 × Mem) := if (m.1 0 1) ≤ (680 : Int32) then ((fX11_putBytes N x1 m).bind (fun q2 => (fX11_putBytes N x2 q2).bind (fun q4 => (fX11_putBytes N x3 q4).bind (fun q6 => (fX11_putBytes N x4 q6).bind (fun q8 => (fX11_putBytes N x5 q8).bind (fun q10 => some ((q10.1 0 1), q10))))))) else (some ((-1 : Int32), m))
set_option maxHeartbeats 4000000 in
set_option maxRecDepth 100000 in
theorem ctX11_feed {l : Launch} {D : va_G} {ca : Nat → ClassId} {ad : Nat → Nat} (N : Nat) (x1 : Int32) (x2 : Int32) (x3 : Int32) (x4 : Int32) (x5 : Int32)  (hn : HNc ca) (m : Mem) (fin : (Int32 × Mem)) (hm : fX11_feed N x1 x2 x3 x4 x5 m = some fin) : CI l D ca ad yX11_feed cwX11_feed rmX11_feed [.ref (ad 0), .int x1, .int x2, .int x3, .int x4, .int x5] m fin.1 fin.2 := by
  refine start (by decide) (Nat.le_of_ble_eq_true rfl) ?_
  intro p e s mm args below meth c H locs ls X hI hr hl
  have X : CX p s mm args meth c cX11_feed 6 RX11 D ca ad (WA ca ad s.heap.size) := X
  have hx := X.1
  have hb := X.2.1
  have hl : lv_has ls 6 [(0, .ref (ad 0)), (1, .int x1), (2, .int x2), (3, .int x3), (4, .int x4), (5, .int x5)] := hl
  have hm : (if (m.1 0 1) ≤ (680 : Int32) then ((fX11_putBytes N x1 m).bind (fun q2 => (fX11_putBytes N x2 q2).bind (fun q4 => (fX11_putBytes N x3 q4).bind (fun q6 => (fX11_putBytes N x4 q6).bind (fun q8 => (fX11_putBytes N x5 q8).bind (fun q10 => some ((q10.1 0 1), q10))))))) else (some ((-1 : Int32), m))) = some fin := hm
  refine lv_aload_n hx hb dX11_feed_0 rfl (lv_at hl 0 rfl) ?_
  refine gI X hI fdX11_86 (la_0 hn) dX11_feed_1 ?_
  refine lv_sipush (v := (680 : Int32)) hx hb dX11_feed_4 (by decide) ?_
  refine lv_icmp_le (tgt := 12) hx hb dX11_feed_7 (by decide) (fun c1 => ?_) (fun c1 => ?_)
  · have hm := g_t c1 hm
    refine lv_aload_n hx hb dX11_feed_12 rfl (lv_at hl 0 rfl) ?_
    refine lv_iload_n hx hb dX11_feed_13 rfl (lv_at hl 1 rfl) ?_
    obtain ⟨q2, h3, hm⟩ := g_b hm
    refine backV X hI (runV X hI (ctX11_putBytes N x1  hn _ _ h3 _) mdX11_90 (la_0 hn) rfl ⟨rfl, rfl⟩ ⟨Nat.le_of_ble_eq_true rfl, Nat.le_of_ble_eq_true rfl⟩ rfl hl.1 rfl (Nat.le_of_ble_eq_true rfl) dX11_feed_14) (fun H locs hI => ?_)
    refine lv_aload_n hx hb dX11_feed_17 rfl (lv_at hl 0 rfl) ?_
    refine lv_iload_n hx hb dX11_feed_18 rfl (lv_at hl 2 rfl) ?_
    obtain ⟨q4, h5, hm⟩ := g_b hm
    refine backV X hI (runV X hI (ctX11_putBytes N x2  hn _ _ h5 _) mdX11_90 (la_0 hn) rfl ⟨rfl, rfl⟩ ⟨Nat.le_of_ble_eq_true rfl, Nat.le_of_ble_eq_true rfl⟩ rfl hl.1 rfl (Nat.le_of_ble_eq_true rfl) dX11_feed_19) (fun H locs hI => ?_)
    refine lv_aload_n hx hb dX11_feed_22 rfl (lv_at hl 0 rfl) ?_
    refine lv_iload_n hx hb dX11_feed_23 rfl (lv_at hl 3 rfl) ?_
    obtain ⟨q6, h7, hm⟩ := g_b hm
    refine backV X hI (runV X hI (ctX11_putBytes N x3  hn _ _ h7 _) mdX11_90 (la_0 hn) rfl ⟨rfl, rfl⟩ ⟨Nat.le_of_ble_eq_true rfl, Nat.le_of_ble_eq_true rfl⟩ rfl hl.1 rfl (Nat.le_of_ble_eq_true rfl) dX11_feed_24) (fun H locs hI => ?_)
    refine lv_aload_n hx hb dX11_feed_27 rfl (lv_at hl 0 rfl) ?_
    refine lv_iload hx hb dX11_feed_28 (lv_at hl 4 rfl) ?_
    obtain ⟨q8, h9, hm⟩ := g_b hm
    refine backV X hI (runV X hI (ctX11_putBytes N x4  hn _ _ h9 _) mdX11_90 (la_0 hn) rfl ⟨rfl, rfl⟩ ⟨Nat.le_of_ble_eq_true rfl, Nat.le_of_ble_eq_true rfl⟩ rfl hl.1 rfl (Nat.le_of_ble_eq_true rfl) dX11_feed_30) (fun H locs hI => ?_)
    refine lv_aload_n hx hb dX11_feed_33 rfl (lv_at hl 0 rfl) ?_
    refine lv_iload hx hb dX11_feed_34 (lv_at hl 5 rfl) ?_
    obtain ⟨q10, h11, hm⟩ := g_b hm
    refine backV X hI (runV X hI (ctX11_putBytes N x5  hn _ _ h11 _) mdX11_90 (la_0 hn) rfl ⟨rfl, rfl⟩ ⟨Nat.le_of_ble_eq_true rfl, Nat.le_of_ble_eq_true rfl⟩ rfl hl.1 rfl (Nat.le_of_ble_eq_true rfl) dX11_feed_36) (fun H locs hI => ?_)
    refine lv_aload_n hx hb dX11_feed_39 rfl (lv_at hl 0 rfl) ?_
    refine gI X hI fdX11_86 (la_0 hn) dX11_feed_40 ?_
    exact rI X hI hr (g_p hm).1 (g_p hm).2 dX11_feed_43
  · have hm := g_f c1 hm
    refine lv_iconst (v := (-1 : Int32)) hx hb dX11_feed_10 (by decide) ?_
    exact rI X hI hr (g_p hm).1 (g_p hm).2 dX11_feed_11
abbrev rmX11_text : Room := { frames := 7, cells := 0, slots := 0, locals := 158 }
abbrev cwX11_text : Cond := .code yX11_text cX11_text 3 (some .int)
theorem cmX11_text : cwX11_text ∈ BIG := (tb3 (List.mem_of_getElem? (i := 70) rfl) rfl)
def fX11_text (N : Nat) (x1 : Int32) (m : Mem) : Option (Int32 × Mem) := if x1 < 0 then (some ((-2 : Int32), m)) else (if x1 ≤ (m.1 0 1) then (if lay ((mI m 0 1 (0 : Int32)).2.2 4) = (0, 6) then ((fX8_readAll N x1 ((mI m 0 1 (0 : Int32)).2.2 4) (mI m 0 1 (0 : Int32))).bind (fun q4 => if q4.1 = 0 then (some ((-1 : Int32), q4.2)) else (if lay (q4.2.2.2 3) = (0, 6) then (if lay (q4.2.2.2 4) = (0, 6) then (if lay ((mR (mR q4.2 3 (q4.2.2.2 4)) 4 (q4.2.2.2 3)).2.2 3) = (0, 6) then ((fX0_begin N 43 ((mR (mR q4.2 3 (q4.2.2.2 4)) 4 (q4.2.2.2 3)).2.2 3) (mR (mR q4.2 3 (q4.2.2.2 4)) 4 (q4.2.2.2 3))).bind (fun q10 => (fX1_forget  q10).bind (fun q12 => (fX7_forget  q12).bind (fun q14 => if lay ((mI q14 0 8 (0 : Int32)).2.2 3) = (0, 6) then (some (((mI q14 0 8 (0 : Int32)).1 ((mI q14 0 8 (0 : Int32)).2.2 3) 10), (mI q14 0 8 (0 : Int32)))) else none)))) else none) else none) else none))) else none) else (some ((-2 : Int32), m)))
set_option maxHeartbeats 4000000 in
set_option maxRecDepth 100000 in
theorem ctX11_text {l : Launch} {D : va_G} {ca : Nat → ClassId} {ad : Nat → Nat} (N : Nat) (x1 : Int32)  (hn : HNc ca) (m : Mem) (fin : (Int32 × Mem)) (hm : fX11_text N x1 m = some fin) : CI l D ca ad yX11_text cwX11_text rmX11_text [.ref (ad 0), .int x1] m fin.1 fin.2 := by
  refine start (by decide) (Nat.le_of_ble_eq_true rfl) ?_
  intro p e s mm args below meth c H locs ls X hI hr hl
  have X : CX p s mm args meth c cX11_text 3 RX11 D ca ad (WA ca ad s.heap.size) := X
  have hx := X.1
  have hb := X.2.1
  have hl : lv_has ls 3 [(0, .ref (ad 0)), (1, .int x1)] := hl
  have hm : (if x1 < 0 then (some ((-2 : Int32), m)) else (if x1 ≤ (m.1 0 1) then (if lay ((mI m 0 1 (0 : Int32)).2.2 4) = (0, 6) then ((fX8_readAll N x1 ((mI m 0 1 (0 : Int32)).2.2 4) (mI m 0 1 (0 : Int32))).bind (fun q4 => if q4.1 = 0 then (some ((-1 : Int32), q4.2)) else (if lay (q4.2.2.2 3) = (0, 6) then (if lay (q4.2.2.2 4) = (0, 6) then (if lay ((mR (mR q4.2 3 (q4.2.2.2 4)) 4 (q4.2.2.2 3)).2.2 3) = (0, 6) then ((fX0_begin N 43 ((mR (mR q4.2 3 (q4.2.2.2 4)) 4 (q4.2.2.2 3)).2.2 3) (mR (mR q4.2 3 (q4.2.2.2 4)) 4 (q4.2.2.2 3))).bind (fun q10 => (fX1_forget  q10).bind (fun q12 => (fX7_forget  q12).bind (fun q14 => if lay ((mI q14 0 8 (0 : Int32)).2.2 3) = (0, 6) then (some (((mI q14 0 8 (0 : Int32)).1 ((mI q14 0 8 (0 : Int32)).2.2 3) 10), (mI q14 0 8 (0 : Int32)))) else none)))) else none) else none) else none))) else none) else (some ((-2 : Int32), m)))) = some fin := hm
  refine lv_iload_n hx hb dX11_text_0 rfl (lv_at hl 1 rfl) ?_
  refine lv_if_lt (tgt := 12) hx hb dX11_text_1 (by decide) (fun c1 => ?_) (fun c1 => ?_)
  · have hm := g_t c1 hm
    refine lv_bipush (v := (-2 : Int32)) hx hb dX11_text_12 (by decide) ?_
    exact rI X hI hr (g_p hm).1 (g_p hm).2 dX11_text_14
  · have hm := g_f c1 hm
    refine lv_iload_n hx hb dX11_text_4 rfl (lv_at hl 1 rfl) ?_
    refine lv_aload_n hx hb dX11_text_5 rfl (lv_at hl 0 rfl) ?_
    refine gI X hI fdX11_86 (la_0 hn) dX11_text_6 ?_
    refine lv_icmp_le (tgt := 15) hx hb dX11_text_9 (by decide) (fun c2 => ?_) (fun c2 => ?_)
    · have hm := g_t c2 hm
      refine lv_aload_n hx hb dX11_text_15 rfl (lv_at hl 0 rfl) ?_
      refine lv_iconst (v := (0 : Int32)) hx hb dX11_text_16 (by decide) ?_
      refine pI X hI fpX11_86 (la_0 hn) dX11_text_17 (fun H locs hI => ?_)
      refine lv_aload_n hx hb dX11_text_20 rfl (lv_at hl 0 rfl) ?_
      refine gR X hI fdX11_20 (la_0 hn) rf11_2 dX11_text_21 ?_
      refine lv_iload_n hx hb dX11_text_24 rfl (lv_at hl 1 rfl) ?_
      refine lv_aload_n hx hb dX11_text_25 rfl (lv_at hl 0 rfl) ?_
      obtain ⟨g3, hm⟩ := g_is hm
      refine gR X hI fdX11_31 (la_0 hn) rf11_4 dX11_text_26 ?_
      obtain ⟨q4, h5, hm⟩ := g_b hm
      refine backI X hI (runV X hI (ctX8_readAll N x1 ((mI m 0 1 (0 : Int32)).2.2 4) (lyO hn g3) hn _ _ h5 _) mdX11_94 (la_2 hn) rfl ⟨rfl, rfl⟩ ⟨Nat.le_of_ble_eq_true rfl, Nat.le_of_ble_eq_true rfl⟩ rfl hl.1 rfl (Nat.le_of_ble_eq_true rfl) dX11_text_29) (fun H locs hI => ?_)
      refine lv_if_ne (tgt := 37) hx hb dX11_text_32 (by decide) (fun c6 => ?_) (fun c6 => ?_)
      · have hm := g_f c6 hm
        refine lv_aload_n hx hb dX11_text_37 rfl (lv_at hl 0 rfl) ?_
        obtain ⟨g7, hm⟩ := g_is hm
        refine gR X hI fdX11_27 (la_0 hn) rf11_3 dX11_text_38 ?_
        refine lv_astore_n (lv' := [(2, .ref (ad (q4.2.2.2 3))), (0, .ref (ad 0)), (1, .int x1)]) hx hb dX11_text_41 rfl hl (by decide) rfl (fun ls hl => ?_)
        refine lv_aload_n hx hb dX11_text_42 rfl (lv_at hl 1 rfl) ?_
        refine lv_aload_n hx hb dX11_text_43 rfl (lv_at hl 1 rfl) ?_
        obtain ⟨g8, hm⟩ := g_is hm
        refine gR X hI fdX11_31 (la_0 hn) rf11_4 dX11_text_44 ?_
        refine pR X hI fpX11_27 hn (by decide) dX11_text_47 (fun H locs hI => ?_)
        refine lv_aload_n hx hb dX11_text_50 rfl (lv_at hl 1 rfl) ?_
        refine lv_aload_n hx hb dX11_text_51 rfl (lv_at hl 0 rfl) ?_
        refine pR X hI fpX11_31 hn (by decide) dX11_text_52 (fun H locs hI => ?_)
        refine lv_aload_n hx hb dX11_text_55 rfl (lv_at hl 1 rfl) ?_
        refine gR X hI fdX11_37 (la_0 hn) rf11_5 dX11_text_56 ?_
        refine lv_aload_n hx hb dX11_text_59 rfl (lv_at hl 1 rfl) ?_
        obtain ⟨g9, hm⟩ := g_is hm
        refine gR X hI fdX11_27 (la_0 hn) rf11_3 dX11_text_60 ?_
        obtain ⟨q10, h11, hm⟩ := g_b hm
        refine backV X hI (runV X hI (ctX0_begin N 43 ((mR (mR q4.2 3 (q4.2.2.2 4)) 4 (q4.2.2.2 3)).2.2 3) (la_43 hn) (lyO hn g9) hn _ _ h11 _) mdX11_82 (la_43 hn) rfl ⟨rfl, rfl⟩ ⟨Nat.le_of_ble_eq_true rfl, Nat.le_of_ble_eq_true rfl⟩ rfl hl.1 rfl (Nat.le_of_ble_eq_true rfl) dX11_text_63) (fun H locs hI => ?_)
        refine lv_aload_n hx hb dX11_text_66 rfl (lv_at hl 1 rfl) ?_
        refine gR X hI fdX11_64 (la_0 hn) rf11_11 dX11_text_67 ?_
        obtain ⟨q12, h13, hm⟩ := g_b hm
        refine backV X hI (runV X hI (ctX1_forget   hn _ _ h13 _) mdX11_98 (la_76 hn) rfl ⟨rfl, rfl⟩ ⟨Nat.le_of_ble_eq_true rfl, Nat.le_of_ble_eq_true rfl⟩ rfl hl.1 rfl (Nat.le_of_ble_eq_true rfl) dX11_text_70) (fun H locs hI => ?_)
        refine lv_aload_n hx hb dX11_text_73 rfl (lv_at hl 1 rfl) ?_
        refine gR X hI fdX11_57 (la_0 hn) rf11_10 dX11_text_74 ?_
        obtain ⟨q14, h15, hm⟩ := g_b hm
        refine backV X hI (runV X hI (ctX7_forget   hn _ _ h15 _) mdX11_101 (la_74 hn) rfl ⟨rfl, rfl⟩ ⟨Nat.le_of_ble_eq_true rfl, Nat.le_of_ble_eq_true rfl⟩ rfl hl.1 rfl (Nat.le_of_ble_eq_true rfl) dX11_text_77) (fun H locs hI => ?_)
        refine lv_aload_n hx hb dX11_text_80 rfl (lv_at hl 1 rfl) ?_
        refine lv_iconst (v := (0 : Int32)) hx hb dX11_text_81 (by decide) ?_
        refine pZ X hI fpX11_102 (la_0 hn) (by decide) dX11_text_82 (fun H locs hI => ?_)
        refine lv_aload_n hx hb dX11_text_85 rfl (lv_at hl 1 rfl) ?_
        obtain ⟨g16, hm⟩ := g_is hm
        refine gR X hI fdX11_27 (la_0 hn) rf11_3 dX11_text_86 ?_
        refine gI X hI fdX11_106 (lyO hn g16) dX11_text_89 ?_
        exact rI X hI hr (g_p hm).1 (g_p hm).2 dX11_text_92
      · have hm := g_t c6 hm
        refine lv_iconst (v := (-1 : Int32)) hx hb dX11_text_35 (by decide) ?_
        exact rI X hI hr (g_p hm).1 (g_p hm).2 dX11_text_36
    · have hm := g_f c2 hm
      refine lv_bipush (v := (-2 : Int32)) hx hb dX11_text_12 (by decide) ?_
      exact rI X hI hr (g_p hm).1 (g_p hm).2 dX11_text_14
abbrev rmX11_fault : Room := { frames := 0, cells := 0, slots := 0, locals := 0 }
abbrev cwX11_fault : Cond := .code yX11_fault cX11_fault 2 (some .int)
theorem cmX11_fault : cwX11_fault ∈ BIG := (tb4 (List.mem_of_getElem? (i := 13) rfl) rfl)
def fX11_fault  (x1 : Int32) (m : Mem) : Option Int32 := if x1 = 0 then (some (m.1 2 7)) else (if x1 = (1 : Int32) then (some (m.1 2 8)) else (some (-1 : Int32)))
set_option maxHeartbeats 4000000 in
set_option maxRecDepth 100000 in
theorem ctX11_fault {l : Launch} {D : va_G} {ca : Nat → ClassId} {ad : Nat → Nat}  (x1 : Int32)  (hn : HNc ca) (m : Mem) (fin : Int32) (hm : fX11_fault x1 m = some fin) : CI l D ca ad yX11_fault cwX11_fault rmX11_fault [.ref (ad 0), .int x1] m fin m := by
  refine start (by decide) (Nat.le_of_ble_eq_true rfl) ?_
  intro p e s mm args below meth c H locs ls X hI hr hl
  have X : CX p s mm args meth c cX11_fault 2 RX11 D ca ad (WA ca ad s.heap.size) := X
  have hx := X.1
  have hb := X.2.1
  have hl : lv_has ls 2 [(0, .ref (ad 0)), (1, .int x1)] := hl
  have hm : (if x1 = 0 then (some (m.1 2 7)) else (if x1 = (1 : Int32) then (some (m.1 2 8)) else (some (-1 : Int32)))) = some fin := hm
  have hpm : m = m := rfl
  refine lv_iload_n hx hb dX11_fault_0 rfl (lv_at hl 1 rfl) ?_
  refine lv_if_ne (tgt := 12) hx hb dX11_fault_1 (by decide) (fun c1 => ?_) (fun c1 => ?_)
  · have hm := g_f c1 hm
    refine lv_iload_n hx hb dX11_fault_12 rfl (lv_at hl 1 rfl) ?_
    refine lv_iconst (v := (1 : Int32)) hx hb dX11_fault_13 (by decide) ?_
    refine lv_icmp_ne (tgt := 27) hx hb dX11_fault_14 (by decide) (fun c2 => ?_) (fun c2 => ?_)
    · have hm := g_f c2 hm
      refine lv_iconst (v := (-1 : Int32)) hx hb dX11_fault_27 (by decide) ?_
      exact rI X hI hr (g_1 hm) hpm dX11_fault_28
    · have hm := g_t c2 hm
      refine lv_aload_n hx hb dX11_fault_17 rfl (lv_at hl 0 rfl) ?_
      refine gR X hI fdX11_20 (la_0 hn) rf11_2 dX11_fault_18 ?_
      refine gI X hI fdX11_112 (la_2 hn) dX11_fault_21 ?_
      refine lv_goto (tgt := 28) hx hb dX11_fault_24 (by decide) ?_
      exact rI X hI hr (g_1 hm) hpm dX11_fault_28
  · have hm := g_t c1 hm
    refine lv_aload_n hx hb dX11_fault_4 rfl (lv_at hl 0 rfl) ?_
    refine gR X hI fdX11_20 (la_0 hn) rf11_2 dX11_fault_5 ?_
    refine gI X hI fdX11_109 (la_2 hn) dX11_fault_8 ?_
    exact rI X hI hr (g_1 hm) hpm dX11_fault_11
abbrev rmX11_named : Room := { frames := 2, cells := 0, slots := 0, locals := 45 }
abbrev cwX11_named : Cond := .code yX11_named cX11_named 3 (some .int)
theorem cmX11_named : cwX11_named ∈ BIG := (tb4 (List.mem_of_getElem? (i := 17) rfl) rfl)
def fX11_named (N : Nat) (x1 : Int32) (x2 : Int32) (m : Mem) : Option Int32 := if x1 = 0 then (if lay (m.2.2 3) = (0, 6) then ((fX9_find N ((m.2.2 3) + 1) x2 m).bind (fun q7 => some q7)) else none) else (if x1 = (1 : Int32) then (if lay (m.2.2 3) = (0, 6) then ((fX9_find N ((m.2.2 3) + 3) x2 m).bind (fun q4 => some q4)) else none) else (some (-1 : Int32)))
set_option maxHeartbeats 4000000 in
set_option maxRecDepth 100000 in
theorem ctX11_named {l : Launch} {D : va_G} {ca : Nat → ClassId} {ad : Nat → Nat} (N : Nat) (x1 : Int32) (x2 : Int32)  (hn : HNc ca) (m : Mem) (fin : Int32) (hm : fX11_named N x1 x2 m = some fin) : CI l D ca ad yX11_named cwX11_named rmX11_named [.ref (ad 0), .int x1, .int x2] m fin m := by
  refine start (by decide) (Nat.le_of_ble_eq_true rfl) ?_
  intro p e s mm args below meth c H locs ls X hI hr hl
  have X : CX p s mm args meth c cX11_named 3 RX11 D ca ad (WA ca ad s.heap.size) := X
  have hx := X.1
  have hb := X.2.1
  have hl : lv_has ls 3 [(0, .ref (ad 0)), (1, .int x1), (2, .int x2)] := hl
  have hm : (if x1 = 0 then (if lay (m.2.2 3) = (0, 6) then ((fX9_find N ((m.2.2 3) + 1) x2 m).bind (fun q7 => some q7)) else none) else (if x1 = (1 : Int32) then (if lay (m.2.2 3) = (0, 6) then ((fX9_find N ((m.2.2 3) + 3) x2 m).bind (fun q4 => some q4)) else none) else (some (-1 : Int32)))) = some fin := hm
  have hpm : m = m := rfl
  refine lv_iload_n hx hb dX11_named_0 rfl (lv_at hl 1 rfl) ?_
  refine lv_if_ne (tgt := 16) hx hb dX11_named_1 (by decide) (fun c1 => ?_) (fun c1 => ?_)
  · have hm := g_f c1 hm
    refine lv_iload_n hx hb dX11_named_16 rfl (lv_at hl 1 rfl) ?_
    refine lv_iconst (v := (1 : Int32)) hx hb dX11_named_17 (by decide) ?_
    refine lv_icmp_ne (tgt := 35) hx hb dX11_named_18 (by decide) (fun c2 => ?_) (fun c2 => ?_)
    · have hm := g_f c2 hm
      refine lv_iconst (v := (-1 : Int32)) hx hb dX11_named_35 (by decide) ?_
      exact rI X hI hr (g_1 hm) hpm dX11_named_36
    · have hm := g_t c2 hm
      refine lv_aload_n hx hb dX11_named_21 rfl (lv_at hl 0 rfl) ?_
      obtain ⟨g3, hm⟩ := g_is hm
      refine gR X hI fdX11_27 (la_0 hn) rf11_3 dX11_named_22 ?_
      refine gR X hI fdX11_125 (lyO hn g3) rf6_1 dX11_named_25 ?_
      refine lv_iload_n hx hb dX11_named_28 rfl (lv_at hl 2 rfl) ?_
      obtain ⟨q4, h5, hm⟩ := g_b hm
      refine backI X hI (runV X hI (ctX9_find N ((m.2.2 3) + 3) x2 (lf6_1 hn (lyO hn g3)) hn _ _ h5 _) mdX11_119 (lf6_1 hn (lyO hn g3)) rfl ⟨rfl, rfl⟩ ⟨Nat.le_of_ble_eq_true rfl, Nat.le_of_ble_eq_true rfl⟩ rfl hl.1 rfl (Nat.le_of_ble_eq_true rfl) dX11_named_29) (fun H locs hI => ?_)
      refine lv_goto (tgt := 36) hx hb dX11_named_32 (by decide) ?_
      exact rI X hI hr (g_1 hm) hpm dX11_named_36
  · have hm := g_t c1 hm
    refine lv_aload_n hx hb dX11_named_4 rfl (lv_at hl 0 rfl) ?_
    obtain ⟨g6, hm⟩ := g_is hm
    refine gR X hI fdX11_27 (la_0 hn) rf11_3 dX11_named_5 ?_
    refine gR X hI fdX11_115 (lyO hn g6) rf6_0 dX11_named_8 ?_
    refine lv_iload_n hx hb dX11_named_11 rfl (lv_at hl 2 rfl) ?_
    obtain ⟨q7, h8, hm⟩ := g_b hm
    refine backI X hI (runV X hI (ctX9_find N ((m.2.2 3) + 1) x2 (lf6_0 hn (lyO hn g6)) hn _ _ h8 _) mdX11_119 (lf6_0 hn (lyO hn g6)) rfl ⟨rfl, rfl⟩ ⟨Nat.le_of_ble_eq_true rfl, Nat.le_of_ble_eq_true rfl⟩ rfl hl.1 rfl (Nat.le_of_ble_eq_true rfl) dX11_named_12) (fun H locs hI => ?_)
    exact rI X hI hr (g_1 hm) hpm dX11_named_15
abbrev rmX11_knight : Room := { frames := 2, cells := 0, slots := 0, locals := 44 }
abbrev cwX11_knight : Cond := .code yX11_knight cX11_knight 3 (some .int)
theorem cmX11_knight : cwX11_knight ∈ BIG := (tb4 (List.mem_of_getElem? (i := 22) rfl) rfl)
def fX11_knight  (x1 : Int32) (x2 : Int32) (m : Mem) : Option Int32 := if lay (m.2.2 3) = (0, 6) then ((fX6_hasKnight (m.2.2 3) x1 m).bind (fun q2 => if q2 = 0 then (some (-1 : Int32)) else (if x2 = (0 : Int32) then (if x1 < 0 ∨ 6 ≤ x1.toNatClampNeg then none else (some (m.1 47 x1.toNatClampNeg))) else (if x2 = (1 : Int32) then (if lay (m.2.2 3) = (0, 6) then ((fX6_rankOf (m.2.2 3) x1 m).bind (fun q9 => some q9)) else none) else (if x2 = (2 : Int32) then (if x1 < 0 ∨ 6 ≤ x1.toNatClampNeg then none else (some (m.1 48 x1.toNatClampNeg))) else (if x2 = (3 : Int32) then (if x1 < 0 ∨ 6 ≤ x1.toNatClampNeg then none else (some (m.1 49 x1.toNatClampNeg))) else (if x2 = (4 : Int32) then (if x1 < 0 ∨ 6 ≤ x1.toNatClampNeg then none else (some (m.1 50 x1.toNatClampNeg))) else (if x2 = (5 : Int32) then (if x1 < 0 ∨ 6 ≤ x1.toNatClampNeg then none else (some (m.1 51 x1.toNatClampNeg))) else (if x2 = (6 : Int32) then (if x1 < 0 ∨ 6 ≤ x1.toNatClampNeg then none else (some (m.1 52 x1.toNatClampNeg))) else (some (-1 : Int32))))))))))) else none
set_option maxHeartbeats 4000000 in
set_option maxRecDepth 100000 in
theorem ctX11_knight {l : Launch} {D : va_G} {ca : Nat → ClassId} {ad : Nat → Nat}  (x1 : Int32) (x2 : Int32)  (hn : HNc ca) (m : Mem) (fin : Int32) (hm : fX11_knight x1 x2 m = some fin) : CI l D ca ad yX11_knight cwX11_knight rmX11_knight [.ref (ad 0), .int x1, .int x2] m fin m := by
  refine start (by decide) (Nat.le_of_ble_eq_true rfl) ?_
  intro p e s mm args below meth c H locs ls X hI hr hl
  have X : CX p s mm args meth c cX11_knight 3 RX11 D ca ad (WA ca ad s.heap.size) := X
  have hx := X.1
  have hb := X.2.1
  have hl : lv_has ls 3 [(0, .ref (ad 0)), (1, .int x1), (2, .int x2)] := hl
  have hm : (if lay (m.2.2 3) = (0, 6) then ((fX6_hasKnight (m.2.2 3) x1 m).bind (fun q2 => if q2 = 0 then (some (-1 : Int32)) else (if x2 = (0 : Int32) then (if x1 < 0 ∨ 6 ≤ x1.toNatClampNeg then none else (some (m.1 47 x1.toNatClampNeg))) else (if x2 = (1 : Int32) then (if lay (m.2.2 3) = (0, 6) then ((fX6_rankOf (m.2.2 3) x1 m).bind (fun q9 => some q9)) else none) else (if x2 = (2 : Int32) then (if x1 < 0 ∨ 6 ≤ x1.toNatClampNeg then none else (some (m.1 48 x1.toNatClampNeg))) else (if x2 = (3 : Int32) then (if x1 < 0 ∨ 6 ≤ x1.toNatClampNeg then none else (some (m.1 49 x1.toNatClampNeg))) else (if x2 = (4 : Int32) then (if x1 < 0 ∨ 6 ≤ x1.toNatClampNeg then none else (some (m.1 50 x1.toNatClampNeg))) else (if x2 = (5 : Int32) then (if x1 < 0 ∨ 6 ≤ x1.toNatClampNeg then none else (some (m.1 51 x1.toNatClampNeg))) else (if x2 = (6 : Int32) then (if x1 < 0 ∨ 6 ≤ x1.toNatClampNeg then none else (some (m.1 52 x1.toNatClampNeg))) else (some (-1 : Int32))))))))))) else none) = some fin := hm
  have hpm : m = m := rfl
  refine lv_aload_n hx hb dX11_knight_0 rfl (lv_at hl 0 rfl) ?_
  obtain ⟨g1, hm⟩ := g_is hm
  refine gR X hI fdX11_27 (la_0 hn) rf11_3 dX11_knight_1 ?_
  refine lv_iload_n hx hb dX11_knight_4 rfl (lv_at hl 1 rfl) ?_
  obtain ⟨q2, h3, hm⟩ := g_b hm
  refine backI X hI (runV X hI (ctX6_hasKnight (m.2.2 3) x1 (lyO hn g1) hn _ _ h3 _) mdX11_154 (lyO hn g1) rfl ⟨rfl, rfl⟩ ⟨Nat.le_of_ble_eq_true rfl, Nat.le_of_ble_eq_true rfl⟩ rfl hl.1 rfl (Nat.le_of_ble_eq_true rfl) dX11_knight_5) (fun H locs hI => ?_)
  refine lv_if_ne (tgt := 13) hx hb dX11_knight_8 (by decide) (fun c4 => ?_) (fun c4 => ?_)
  · have hm := g_f c4 hm
    refine lv_iload_n hx hb dX11_knight_13 rfl (lv_at hl 2 rfl) ?_
    by_cases c5 : x2 = (0 : Int32)
    · have hm := g_t c5 hm
      refine lv_tableIn (tgt := 56) hx hb dX11_knight_14 (by rw [c5]; decide) (by rw [c5]; decide) (off := 42) (by rw [c5]; decide) (by decide) ?_
      refine lv_aload_n hx hb dX11_knight_56 rfl (lv_at hl 0 rfl) ?_
      refine gR X hI fdX11_37 (la_0 hn) rf11_5 dX11_knight_57 ?_
      refine gR X hI fdX11_157 (la_43 hn) rf0_3 dX11_knight_60 ?_
      refine lv_iload_n hx hb dX11_knight_63 rfl (lv_at hl 1 rfl) ?_
      obtain ⟨g6, hm⟩ := g_no hm
      refine aI X hI (la_47 hn) g6 dX11_knight_64 ?_
      exact rI X hI hr (g_1 hm) hpm dX11_knight_65
    · have hm := g_f c5 hm
      by_cases c7 : x2 = (1 : Int32)
      · have hm := g_t c7 hm
        refine lv_tableIn (tgt := 66) hx hb dX11_knight_14 (by rw [c7]; decide) (by rw [c7]; decide) (off := 52) (by rw [c7]; decide) (by decide) ?_
        refine lv_aload_n hx hb dX11_knight_66 rfl (lv_at hl 0 rfl) ?_
        obtain ⟨g8, hm⟩ := g_is hm
        refine gR X hI fdX11_27 (la_0 hn) rf11_3 dX11_knight_67 ?_
        refine lv_iload_n hx hb dX11_knight_70 rfl (lv_at hl 1 rfl) ?_
        obtain ⟨q9, h10, hm⟩ := g_b hm
        refine backI X hI (runV X hI (ctX6_rankOf (m.2.2 3) x1 (lyO hn g8) hn _ _ h10 _) mdX11_160 (lyO hn g8) rfl ⟨rfl, rfl⟩ ⟨Nat.le_of_ble_eq_true rfl, Nat.le_of_ble_eq_true rfl⟩ rfl hl.1 rfl (Nat.le_of_ble_eq_true rfl) dX11_knight_71) (fun H locs hI => ?_)
        exact rI X hI hr (g_1 hm) hpm dX11_knight_74
      · have hm := g_f c7 hm
        by_cases c11 : x2 = (2 : Int32)
        · have hm := g_t c11 hm
          refine lv_tableIn (tgt := 75) hx hb dX11_knight_14 (by rw [c11]; decide) (by rw [c11]; decide) (off := 61) (by rw [c11]; decide) (by decide) ?_
          refine lv_aload_n hx hb dX11_knight_75 rfl (lv_at hl 0 rfl) ?_
          refine gR X hI fdX11_37 (la_0 hn) rf11_5 dX11_knight_76 ?_
          refine gR X hI fdX11_163 (la_43 hn) rf0_4 dX11_knight_79 ?_
          refine lv_iload_n hx hb dX11_knight_82 rfl (lv_at hl 1 rfl) ?_
          obtain ⟨g12, hm⟩ := g_no hm
          refine aI X hI (la_48 hn) g12 dX11_knight_83 ?_
          exact rI X hI hr (g_1 hm) hpm dX11_knight_84
        · have hm := g_f c11 hm
          by_cases c13 : x2 = (3 : Int32)
          · have hm := g_t c13 hm
            refine lv_tableIn (tgt := 85) hx hb dX11_knight_14 (by rw [c13]; decide) (by rw [c13]; decide) (off := 71) (by rw [c13]; decide) (by decide) ?_
            refine lv_aload_n hx hb dX11_knight_85 rfl (lv_at hl 0 rfl) ?_
            refine gR X hI fdX11_37 (la_0 hn) rf11_5 dX11_knight_86 ?_
            refine gR X hI fdX11_166 (la_43 hn) rf0_5 dX11_knight_89 ?_
            refine lv_iload_n hx hb dX11_knight_92 rfl (lv_at hl 1 rfl) ?_
            obtain ⟨g14, hm⟩ := g_no hm
            refine aI X hI (la_49 hn) g14 dX11_knight_93 ?_
            exact rI X hI hr (g_1 hm) hpm dX11_knight_94
          · have hm := g_f c13 hm
            by_cases c15 : x2 = (4 : Int32)
            · have hm := g_t c15 hm
              refine lv_tableIn (tgt := 95) hx hb dX11_knight_14 (by rw [c15]; decide) (by rw [c15]; decide) (off := 81) (by rw [c15]; decide) (by decide) ?_
              refine lv_aload_n hx hb dX11_knight_95 rfl (lv_at hl 0 rfl) ?_
              refine gR X hI fdX11_37 (la_0 hn) rf11_5 dX11_knight_96 ?_
              refine gR X hI fdX11_169 (la_43 hn) rf0_6 dX11_knight_99 ?_
              refine lv_iload_n hx hb dX11_knight_102 rfl (lv_at hl 1 rfl) ?_
              obtain ⟨g16, hm⟩ := g_no hm
              refine aI X hI (la_50 hn) g16 dX11_knight_103 ?_
              exact rI X hI hr (g_1 hm) hpm dX11_knight_104
            · have hm := g_f c15 hm
              by_cases c17 : x2 = (5 : Int32)
              · have hm := g_t c17 hm
                refine lv_tableIn (tgt := 105) hx hb dX11_knight_14 (by rw [c17]; decide) (by rw [c17]; decide) (off := 91) (by rw [c17]; decide) (by decide) ?_
                refine lv_aload_n hx hb dX11_knight_105 rfl (lv_at hl 0 rfl) ?_
                refine gR X hI fdX11_37 (la_0 hn) rf11_5 dX11_knight_106 ?_
                refine gR X hI fdX11_172 (la_43 hn) rf0_7 dX11_knight_109 ?_
                refine lv_iload_n hx hb dX11_knight_112 rfl (lv_at hl 1 rfl) ?_
                obtain ⟨g18, hm⟩ := g_no hm
                refine aI X hI (la_51 hn) g18 dX11_knight_113 ?_
                exact rI X hI hr (g_1 hm) hpm dX11_knight_114
              · have hm := g_f c17 hm
                by_cases c19 : x2 = (6 : Int32)
                · have hm := g_t c19 hm
                  refine lv_tableIn (tgt := 115) hx hb dX11_knight_14 (by rw [c19]; decide) (by rw [c19]; decide) (off := 101) (by rw [c19]; decide) (by decide) ?_
                  refine lv_aload_n hx hb dX11_knight_115 rfl (lv_at hl 0 rfl) ?_
                  refine gR X hI fdX11_37 (la_0 hn) rf11_5 dX11_knight_116 ?_
                  refine gR X hI fdX11_175 (la_43 hn) rf0_8 dX11_knight_119 ?_
                  refine lv_iload_n hx hb dX11_knight_122 rfl (lv_at hl 1 rfl) ?_
                  obtain ⟨g20, hm⟩ := g_no hm
                  refine aI X hI (la_52 hn) g20 dX11_knight_123 ?_
                  exact rI X hI hr (g_1 hm) hpm dX11_knight_124
                · have hm := g_f c19 hm
                  have ec5 := lv_neT c5 (a := 0) (by decide)
                  have ec7 := lv_neT c7 (a := 1) (by decide)
                  have ec11 := lv_neT c11 (a := 2) (by decide)
                  have ec13 := lv_neT c13 (a := 3) (by decide)
                  have ec15 := lv_neT c15 (a := 4) (by decide)
                  have ec17 := lv_neT c17 (a := 5) (by decide)
                  have ec19 := lv_neT c19 (a := 6) (by decide)
                  refine lv_tableOut (tgt := 125) hx hb dX11_knight_14 (by omega) (by decide) ?_
                  refine lv_iconst (v := (-1 : Int32)) hx hb dX11_knight_125 (by decide) ?_
                  exact rI X hI hr (g_1 hm) hpm dX11_knight_126
  · have hm := g_t c4 hm
    refine lv_iconst (v := (-1 : Int32)) hx hb dX11_knight_11 (by decide) ?_
    exact rI X hI hr (g_1 hm) hpm dX11_knight_12
abbrev rmX11_atEase : Room := { frames := 4, cells := 0, slots := 0, locals := 105 }
abbrev cwX11_atEase : Cond := .code yX11_atEase cX11_atEase 3 (some .int)
theorem cmX11_atEase : cwX11_atEase ∈ BIG := (tb4 (List.mem_of_getElem? (i := 32) rfl) rfl)
def fX11_atEase (N : Nat) (x1 : Int32) (x2 : Int32) (m : Mem) : Option (Int32 × Mem) := if lay (m.2.2 3) = (0, 6) then ((fX6_hasKnight (m.2.2 3) x1 m).bind (fun q2 => if q2 = 0 then (some ((-1 : Int32), m)) else (if lay (m.2.2 3) = (0, 6) then ((fX6_hasTub (m.2.2 3) x2 m).bind (fun q6 => if q6 = 0 then (some ((-1 : Int32), m)) else (if lay (m.2.2 3) = (0, 6) then ((fX6_easeIn N (m.2.2 3) 43 x1 x2 (0 : Int32) m).bind (fun q10 => if q10.1 = 0 then (some ((0 : Int32), q10.2)) else (some ((1 : Int32), q10.2)))) else none))) else none))) else none
set_option maxHeartbeats 4000000 in
set_option maxRecDepth 100000 in
theorem ctX11_atEase {l : Launch} {D : va_G} {ca : Nat → ClassId} {ad : Nat → Nat} (N : Nat) (x1 : Int32) (x2 : Int32)  (hn : HNc ca) (m : Mem) (fin : (Int32 × Mem)) (hm : fX11_atEase N x1 x2 m = some fin) : CI l D ca ad yX11_atEase cwX11_atEase rmX11_atEase [.ref (ad 0), .int x1, .int x2] m fin.1 fin.2 := by
  refine start (by decide) (Nat.le_of_ble_eq_true rfl) ?_
  intro p e s mm args below meth c H locs ls X hI hr hl
  have X : CX p s mm args meth c cX11_atEase 3 RX11 D ca ad (WA ca ad s.heap.size) := X
  have hx := X.1
  have hb := X.2.1
  have hl : lv_has ls 3 [(0, .ref (ad 0)), (1, .int x1), (2, .int x2)] := hl
  have hm : (if lay (m.2.2 3) = (0, 6) then ((fX6_hasKnight (m.2.2 3) x1 m).bind (fun q2 => if q2 = 0 then (some ((-1 : Int32), m)) else (if lay (m.2.2 3) = (0, 6) then ((fX6_hasTub (m.2.2 3) x2 m).bind (fun q6 => if q6 = 0 then (some ((-1 : Int32), m)) else (if lay (m.2.2 3) = (0, 6) then ((fX6_easeIn N (m.2.2 3) 43 x1 x2 (0 : Int32) m).bind (fun q10 => if q10.1 = 0 then (some ((0 : Int32), q10.2)) else (some ((1 : Int32), q10.2)))) else none))) else none))) else none) = some fin := hm
  refine lv_aload_n hx hb dX11_atEase_0 rfl (lv_at hl 0 rfl) ?_
  obtain ⟨g1, hm⟩ := g_is hm
  refine gR X hI fdX11_27 (la_0 hn) rf11_3 dX11_atEase_1 ?_
  refine lv_iload_n hx hb dX11_atEase_4 rfl (lv_at hl 1 rfl) ?_
  obtain ⟨q2, h3, hm⟩ := g_b hm
  refine backI X hI (runV X hI (ctX6_hasKnight (m.2.2 3) x1 (lyO hn g1) hn _ _ h3 _) mdX11_154 (lyO hn g1) rfl ⟨rfl, rfl⟩ ⟨Nat.le_of_ble_eq_true rfl, Nat.le_of_ble_eq_true rfl⟩ rfl hl.1 rfl (Nat.le_of_ble_eq_true rfl) dX11_atEase_5) (fun H locs hI => ?_)
  refine lv_if_eq (tgt := 22) hx hb dX11_atEase_8 (by decide) (fun c4 => ?_) (fun c4 => ?_)
  · have hm := g_t c4 hm
    refine lv_iconst (v := (-1 : Int32)) hx hb dX11_atEase_22 (by decide) ?_
    exact rI X hI hr (g_p hm).1 (g_p hm).2 dX11_atEase_23
  · have hm := g_f c4 hm
    refine lv_aload_n hx hb dX11_atEase_11 rfl (lv_at hl 0 rfl) ?_
    obtain ⟨g5, hm⟩ := g_is hm
    refine gR X hI fdX11_27 (la_0 hn) rf11_3 dX11_atEase_12 ?_
    refine lv_iload_n hx hb dX11_atEase_15 rfl (lv_at hl 2 rfl) ?_
    obtain ⟨q6, h7, hm⟩ := g_b hm
    refine backI X hI (runV X hI (ctX6_hasTub (m.2.2 3) x2 (lyO hn g5) hn _ _ h7 _) mdX11_128 (lyO hn g5) rfl ⟨rfl, rfl⟩ ⟨Nat.le_of_ble_eq_true rfl, Nat.le_of_ble_eq_true rfl⟩ rfl hl.1 rfl (Nat.le_of_ble_eq_true rfl) dX11_atEase_16) (fun H locs hI => ?_)
    refine lv_if_ne (tgt := 24) hx hb dX11_atEase_19 (by decide) (fun c8 => ?_) (fun c8 => ?_)
    · have hm := g_f c8 hm
      refine lv_aload_n hx hb dX11_atEase_24 rfl (lv_at hl 0 rfl) ?_
      obtain ⟨g9, hm⟩ := g_is hm
      refine gR X hI fdX11_27 (la_0 hn) rf11_3 dX11_atEase_25 ?_
      refine lv_aload_n hx hb dX11_atEase_28 rfl (lv_at hl 0 rfl) ?_
      refine gR X hI fdX11_37 (la_0 hn) rf11_5 dX11_atEase_29 ?_
      refine lv_iload_n hx hb dX11_atEase_32 rfl (lv_at hl 1 rfl) ?_
      refine lv_iload_n hx hb dX11_atEase_33 rfl (lv_at hl 2 rfl) ?_
      refine lv_iconst (v := (0 : Int32)) hx hb dX11_atEase_34 (by decide) ?_
      obtain ⟨q10, h11, hm⟩ := g_b hm
      refine backI X hI (runV X hI (ctX6_easeIn N (m.2.2 3) 43 x1 x2 (0 : Int32) (lyO hn g9) (la_43 hn) hn _ _ h11 _) mdX11_178 (lyO hn g9) rfl ⟨rfl, rfl⟩ ⟨Nat.le_of_ble_eq_true rfl, Nat.le_of_ble_eq_true rfl⟩ rfl hl.1 rfl (Nat.le_of_ble_eq_true rfl) dX11_atEase_35) (fun H locs hI => ?_)
      refine lv_if_eq (tgt := 45) hx hb dX11_atEase_38 (by decide) (fun c12 => ?_) (fun c12 => ?_)
      · have hm := g_t c12 hm
        refine lv_iconst (v := (0 : Int32)) hx hb dX11_atEase_45 (by decide) ?_
        exact rI X hI hr (g_p hm).1 (g_p hm).2 dX11_atEase_46
      · have hm := g_f c12 hm
        refine lv_iconst (v := (1 : Int32)) hx hb dX11_atEase_41 (by decide) ?_
        refine lv_goto (tgt := 46) hx hb dX11_atEase_42 (by decide) ?_
        exact rI X hI hr (g_p hm).1 (g_p hm).2 dX11_atEase_46
    · have hm := g_t c8 hm
      refine lv_iconst (v := (-1 : Int32)) hx hb dX11_atEase_22 (by decide) ?_
      exact rI X hI hr (g_p hm).1 (g_p hm).2 dX11_atEase_23
abbrev rmX11_law : Room := { frames := 3, cells := 0, slots := 0, locals := 79 }
abbrev cwX11_law : Cond := .code yX11_law cX11_law 4 (some .long)
theorem cmX11_law : cwX11_law ∈ BIG := (tb4 (List.mem_of_getElem? (i := 61) rfl) rfl)
def fX11_law_43 (N : Nat) (x1 : Int32) (x2 : Int32) (x3 : Int32) (m : Mem) : Option (Int64 × Mem) := if lay (m.2.2 3) = (0, 6) then ((fX6_worthOf N (m.2.2 3) x1 43 x2 x3 (0 : Int32) m).bind (fun q9 => some (q9.1, q9.2))) else none
set_option maxHeartbeats 4000000 in
set_option maxRecDepth 100000 in
theorem tX11_law_43 (N : Nat) {l : Launch} {D : va_G} {ca : Nat → ClassId} {ad : Nat → Nat} {p : Program} {e : Env} {s : State} {mm : MethodId} {args : Array Value} {below : List Frame} {meth : Method} {c : Code}  (hn : HNc ca) (X : CX p s mm args meth c cX11_law 4 RX11 D ca ad (WA ca ad s.heap.size)) (hr : meth.sig.returnType = (some .long)) (fin : (Int64 × Mem))  : ∀ (x1 : Int32) (x2 : Int32) (x3 : Int32) (m : Mem) (H : Heap) (locs : List Loc) (ls : Array Slot), IW D ca ad (WA ca ad s.heap.size) s m H locs → lv_has ls 4 [(0, .ref (ad 0)), (1, .int x1), (2, .int x2), (3, .int x3)] → fX11_law_43 N x1 x2 x3 m = some fin → W p l e rmX11_law s mm args below meth c H locs 0 0 (MQ below (QL D ca ad s.heap.size fin.1 fin.2) args s 0 0 (WA ca ad s.heap.size)) (F0 mm 43 ls []) := by
  have hx := X.1
  have hb := X.2.1
  intro x1 x2 x3 m H locs ls hI hl hm
  have hm : (if lay (m.2.2 3) = (0, 6) then ((fX6_worthOf N (m.2.2 3) x1 43 x2 x3 (0 : Int32) m).bind (fun q9 => some (q9.1, q9.2))) else none) = some fin := hm
  refine lv_aload_n hx hb dX11_law_43 rfl (lv_at hl 0 rfl) ?_
  obtain ⟨g8, hm⟩ := g_is hm
  refine gR X hI fdX11_27 (la_0 hn) rf11_3 dX11_law_44 ?_
  refine lv_iload_n hx hb dX11_law_47 rfl (lv_at hl 1 rfl) ?_
  refine lv_aload_n hx hb dX11_law_48 rfl (lv_at hl 0 rfl) ?_
  refine gR X hI fdX11_37 (la_0 hn) rf11_5 dX11_law_49 ?_
  refine lv_iload_n hx hb dX11_law_52 rfl (lv_at hl 2 rfl) ?_
  refine lv_iload_n hx hb dX11_law_53 rfl (lv_at hl 3 rfl) ?_
  refine lv_iconst (v := (0 : Int32)) hx hb dX11_law_54 (by decide) ?_
  obtain ⟨q9, h10, hm⟩ := g_b hm
  refine backL X hI (runV X hI (ctX6_worthOf N (m.2.2 3) x1 43 x2 x3 (0 : Int32) (lyO hn g8) (la_43 hn) hn _ _ h10 _) mdX11_184 (lyO hn g8) rfl ⟨rfl, rfl⟩ ⟨Nat.le_of_ble_eq_true rfl, Nat.le_of_ble_eq_true rfl⟩ rfl hl.1 rfl (Nat.le_of_ble_eq_true rfl) dX11_law_55) (fun H locs hI => ?_)
  exact rL X hI hr (g_p hm).1 (g_p hm).2 dX11_law_58
def fX11_law (N : Nat) (x1 : Int32) (x2 : Int32) (x3 : Int32) (m : Mem) : Option (Int64 × Mem) := if x1 < 0 then (some ((-9223372036854775808 : Int64), m)) else (if (2 : Int32) < x1 then (some ((-9223372036854775808 : Int64), m)) else (if lay (m.2.2 3) = (0, 6) then ((fX6_hasTub (m.2.2 3) x3 m).bind (fun q4 => if q4 = 0 then (some ((-9223372036854775808 : Int64), m)) else (if x1 = 0 then (fX11_law_43 N x1 x2 x3 m) else (if lay (m.2.2 3) = (0, 6) then ((fX6_hasKnight (m.2.2 3) x2 m).bind (fun q12 => if q12 = 0 then (some ((-9223372036854775808 : Int64), m)) else (fX11_law_43 N x1 x2 x3 m))) else none)))) else none))
set_option maxHeartbeats 4000000 in
set_option maxRecDepth 100000 in
theorem ctX11_law {l : Launch} {D : va_G} {ca : Nat → ClassId} {ad : Nat → Nat} (N : Nat) (x1 : Int32) (x2 : Int32) (x3 : Int32)  (hn : HNc ca) (m : Mem) (fin : (Int64 × Mem)) (hm : fX11_law N x1 x2 x3 m = some fin) : CL l D ca ad yX11_law cwX11_law rmX11_law [.ref (ad 0), .int x1, .int x2, .int x3] m fin.1 fin.2 := by
  refine start (by decide) (Nat.le_of_ble_eq_true rfl) ?_
  intro p e s mm args below meth c H locs ls X hI hr hl
  have X : CX p s mm args meth c cX11_law 4 RX11 D ca ad (WA ca ad s.heap.size) := X
  have hx := X.1
  have hb := X.2.1
  have hl : lv_has ls 4 [(0, .ref (ad 0)), (1, .int x1), (2, .int x2), (3, .int x3)] := hl
  have hm : (if x1 < 0 then (some ((-9223372036854775808 : Int64), m)) else (if (2 : Int32) < x1 then (some ((-9223372036854775808 : Int64), m)) else (if lay (m.2.2 3) = (0, 6) then ((fX6_hasTub (m.2.2 3) x3 m).bind (fun q4 => if q4 = 0 then (some ((-9223372036854775808 : Int64), m)) else (if x1 = 0 then (fX11_law_43 N x1 x2 x3 m) else (if lay (m.2.2 3) = (0, 6) then ((fX6_hasKnight (m.2.2 3) x2 m).bind (fun q12 => if q12 = 0 then (some ((-9223372036854775808 : Int64), m)) else (fX11_law_43 N x1 x2 x3 m))) else none)))) else none))) = some fin := hm
  refine lv_iload_n hx hb dX11_law_0 rfl (lv_at hl 1 rfl) ?_
  refine lv_if_lt (tgt := 20) hx hb dX11_law_1 (by decide) (fun c1 => ?_) (fun c1 => ?_)
  · have hm := g_t c1 hm
    refine lv_ldc2 hx hb X.2.2.2.1 (X.2.2.2.2.1 _ kcX11_182) dX11_law_20 ?_
    exact rL X hI hr (g_p hm).1 (g_p hm).2 dX11_law_23
  · have hm := g_f c1 hm
    refine lv_iload_n hx hb dX11_law_4 rfl (lv_at hl 1 rfl) ?_
    refine lv_iconst (v := (2 : Int32)) hx hb dX11_law_5 (by decide) ?_
    refine lv_icmp_gt (tgt := 20) hx hb dX11_law_6 (by decide) (fun c2 => ?_) (fun c2 => ?_)
    · have hm := g_t c2 hm
      refine lv_ldc2 hx hb X.2.2.2.1 (X.2.2.2.2.1 _ kcX11_182) dX11_law_20 ?_
      exact rL X hI hr (g_p hm).1 (g_p hm).2 dX11_law_23
    · have hm := g_f c2 hm
      refine lv_aload_n hx hb dX11_law_9 rfl (lv_at hl 0 rfl) ?_
      obtain ⟨g3, hm⟩ := g_is hm
      refine gR X hI fdX11_27 (la_0 hn) rf11_3 dX11_law_10 ?_
      refine lv_iload_n hx hb dX11_law_13 rfl (lv_at hl 3 rfl) ?_
      obtain ⟨q4, h5, hm⟩ := g_b hm
      refine backI X hI (runV X hI (ctX6_hasTub (m.2.2 3) x3 (lyO hn g3) hn _ _ h5 _) mdX11_128 (lyO hn g3) rfl ⟨rfl, rfl⟩ ⟨Nat.le_of_ble_eq_true rfl, Nat.le_of_ble_eq_true rfl⟩ rfl hl.1 rfl (Nat.le_of_ble_eq_true rfl) dX11_law_14) (fun H locs hI => ?_)
      refine lv_if_ne (tgt := 24) hx hb dX11_law_17 (by decide) (fun c6 => ?_) (fun c6 => ?_)
      · have hm := g_f c6 hm
        refine lv_iload_n hx hb dX11_law_24 rfl (lv_at hl 1 rfl) ?_
        refine lv_if_eq (tgt := 43) hx hb dX11_law_25 (by decide) (fun c7 => ?_) (fun c7 => ?_)
        · have hm := g_t c7 hm
          exact tX11_law_43 N hn X hr fin  x1 x2 x3 m H locs ls hI (lv_sub hl [0, 1, 2, 3] rfl) hm
        · have hm := g_f c7 hm
          refine lv_aload_n hx hb dX11_law_28 rfl (lv_at hl 0 rfl) ?_
          obtain ⟨g11, hm⟩ := g_is hm
          refine gR X hI fdX11_27 (la_0 hn) rf11_3 dX11_law_29 ?_
          refine lv_iload_n hx hb dX11_law_32 rfl (lv_at hl 2 rfl) ?_
          obtain ⟨q12, h13, hm⟩ := g_b hm
          refine backI X hI (runV X hI (ctX6_hasKnight (m.2.2 3) x2 (lyO hn g11) hn _ _ h13 _) mdX11_154 (lyO hn g11) rfl ⟨rfl, rfl⟩ ⟨Nat.le_of_ble_eq_true rfl, Nat.le_of_ble_eq_true rfl⟩ rfl hl.1 rfl (Nat.le_of_ble_eq_true rfl) dX11_law_33) (fun H locs hI => ?_)
          refine lv_if_ne (tgt := 43) hx hb dX11_law_36 (by decide) (fun c14 => ?_) (fun c14 => ?_)
          · have hm := g_f c14 hm
            exact tX11_law_43 N hn X hr fin  x1 x2 x3 m H locs ls hI (lv_sub hl [0, 1, 2, 3] rfl) hm
          · have hm := g_t c14 hm
            refine lv_ldc2 hx hb X.2.2.2.1 (X.2.2.2.2.1 _ kcX11_182) dX11_law_39 ?_
            exact rL X hI hr (g_p hm).1 (g_p hm).2 dX11_law_42
      · have hm := g_t c6 hm
        refine lv_ldc2 hx hb X.2.2.2.1 (X.2.2.2.2.1 _ kcX11_182) dX11_law_20 ?_
        exact rL X hI hr (g_p hm).1 (g_p hm).2 dX11_law_23
abbrev rmX11_isPoured : Room := { frames := 0, cells := 0, slots := 0, locals := 0 }
def fX11_isPoured  (x0 : Int32) (m : Mem) : Option Int32 := if x0 < (1 : Int32) then (some (0 : Int32)) else (if (60 : Int32) < x0 then (some (0 : Int32)) else (some (1 : Int32)))
set_option maxHeartbeats 4000000 in
set_option maxRecDepth 100000 in
theorem ctX11_isPoured {l : Launch} {D : va_G} {ca : Nat → ClassId} {ad : Nat → Nat}  (x0 : Int32)  (hn : HNc ca) (m : Mem) (fin : Int32) (hm : fX11_isPoured x0 m = some fin) : CI l D ca ad yX11_isPoured cwX11_isPoured rmX11_isPoured [.int x0] m fin m := by
  refine start (by decide) (Nat.le_of_ble_eq_true rfl) ?_
  intro p e s mm args below meth c H locs ls X hI hr hl
  have X : CX p s mm args meth c cX11_isPoured 1 RX11 D ca ad (WA ca ad s.heap.size) := X
  have hx := X.1
  have hb := X.2.1
  have hl : lv_has ls 1 [(0, .int x0)] := hl
  have hm : (if x0 < (1 : Int32) then (some (0 : Int32)) else (if (60 : Int32) < x0 then (some (0 : Int32)) else (some (1 : Int32)))) = some fin := hm
  have hpm : m = m := rfl
  refine lv_iload_n hx hb dX11_isPoured_0 rfl (lv_at hl 0 rfl) ?_
  refine lv_iconst (v := (1 : Int32)) hx hb dX11_isPoured_1 (by decide) ?_
  refine lv_icmp_lt (tgt := 15) hx hb dX11_isPoured_2 (by decide) (fun c1 => ?_) (fun c1 => ?_)
  · have hm := g_t c1 hm
    refine lv_iconst (v := (0 : Int32)) hx hb dX11_isPoured_15 (by decide) ?_
    exact rZ X hI hr (by decide) (g_1 hm) hpm dX11_isPoured_16
  · have hm := g_f c1 hm
    refine lv_iload_n hx hb dX11_isPoured_5 rfl (lv_at hl 0 rfl) ?_
    refine lv_bipush (v := (60 : Int32)) hx hb dX11_isPoured_6 (by decide) ?_
    refine lv_icmp_gt (tgt := 15) hx hb dX11_isPoured_8 (by decide) (fun c2 => ?_) (fun c2 => ?_)
    · have hm := g_t c2 hm
      refine lv_iconst (v := (0 : Int32)) hx hb dX11_isPoured_15 (by decide) ?_
      exact rZ X hI hr (by decide) (g_1 hm) hpm dX11_isPoured_16
    · have hm := g_f c2 hm
      refine lv_iconst (v := (1 : Int32)) hx hb dX11_isPoured_11 (by decide) ?_
      refine lv_goto (tgt := 16) hx hb dX11_isPoured_12 (by decide) ?_
      exact rZ X hI hr (by decide) (g_1 hm) hpm dX11_isPoured_16
abbrev rmX11_add : Room := { frames := 3, cells := 0, slots := 0, locals := 66 }
abbrev cwX11_add : Cond := .code yX11_add cX11_add 3 (some .int)
theorem cmX11_add : cwX11_add ∈ BIG := (tb4 (List.mem_of_getElem? (i := 67) rfl) rfl)
def fX11_add  (x1 : Int32) (x2 : Int32) (m : Mem) : Option (Int32 × Mem) := if lay (m.2.2 3) = (0, 6) then ((fX6_hasTub (m.2.2 3) x1 m).bind (fun q2 => if q2 = 0 then (some ((-1 : Int32), m)) else ((fX11_isPoured x2 m).bind (fun q5 => if q5 = 0 then (some ((-1 : Int32), m)) else ((fX0_hasRoom 43 x1 x2 m).bind (fun q8 => if q8 = 0 then (some ((-2 : Int32), m)) else ((fX7_save 43 m).bind (fun q11 => (fX0_pourIn 43 x1 x2 (990 : Int32) q11).bind (fun q13 => if x1 < 0 ∨ 6 ≤ x1.toNatClampNeg then none else (some ((q13.1 45 x1.toNatClampNeg), q13))))))))))) else none
set_option maxHeartbeats 4000000 in
set_option maxRecDepth 100000 in
theorem ctX11_add {l : Launch} {D : va_G} {ca : Nat → ClassId} {ad : Nat → Nat}  (x1 : Int32) (x2 : Int32)  (hn : HNc ca) (m : Mem) (fin : (Int32 × Mem)) (hm : fX11_add x1 x2 m = some fin) : CI l D ca ad yX11_add cwX11_add rmX11_add [.ref (ad 0), .int x1, .int x2] m fin.1 fin.2 := by
  refine start (by decide) (Nat.le_of_ble_eq_true rfl) ?_
  intro p e s mm args below meth c H locs ls X hI hr hl
  have X : CX p s mm args meth c cX11_add 3 RX11 D ca ad (WA ca ad s.heap.size) := X
  have hx := X.1
  have hb := X.2.1
  have hl : lv_has ls 3 [(0, .ref (ad 0)), (1, .int x1), (2, .int x2)] := hl
  have hm : (if lay (m.2.2 3) = (0, 6) then ((fX6_hasTub (m.2.2 3) x1 m).bind (fun q2 => if q2 = 0 then (some ((-1 : Int32), m)) else ((fX11_isPoured x2 m).bind (fun q5 => if q5 = 0 then (some ((-1 : Int32), m)) else ((fX0_hasRoom 43 x1 x2 m).bind (fun q8 => if q8 = 0 then (some ((-2 : Int32), m)) else ((fX7_save 43 m).bind (fun q11 => (fX0_pourIn 43 x1 x2 (990 : Int32) q11).bind (fun q13 => if x1 < 0 ∨ 6 ≤ x1.toNatClampNeg then none else (some ((q13.1 45 x1.toNatClampNeg), q13))))))))))) else none) = some fin := hm
  refine lv_aload_n hx hb dX11_add_0 rfl (lv_at hl 0 rfl) ?_
  obtain ⟨g1, hm⟩ := g_is hm
  refine gR X hI fdX11_27 (la_0 hn) rf11_3 dX11_add_1 ?_
  refine lv_iload_n hx hb dX11_add_4 rfl (lv_at hl 1 rfl) ?_
  obtain ⟨q2, h3, hm⟩ := g_b hm
  refine backI X hI (runV X hI (ctX6_hasTub (m.2.2 3) x1 (lyO hn g1) hn _ _ h3 _) mdX11_128 (lyO hn g1) rfl ⟨rfl, rfl⟩ ⟨Nat.le_of_ble_eq_true rfl, Nat.le_of_ble_eq_true rfl⟩ rfl hl.1 rfl (Nat.le_of_ble_eq_true rfl) dX11_add_5) (fun H locs hI => ?_)
  refine lv_if_eq (tgt := 18) hx hb dX11_add_8 (by decide) (fun c4 => ?_) (fun c4 => ?_)
  · have hm := g_t c4 hm
    refine lv_iconst (v := (-1 : Int32)) hx hb dX11_add_18 (by decide) ?_
    exact rI X hI hr (g_p hm).1 (g_p hm).2 dX11_add_19
  · have hm := g_f c4 hm
    refine lv_iload_n hx hb dX11_add_11 rfl (lv_at hl 2 rfl) ?_
    obtain ⟨q5, h6, hm⟩ := g_b hm
    refine backI X hI (runS X hI (ctX11_isPoured x2  hn _ _ h6 _) msX11_188 ⟨rfl, rfl⟩ ⟨Nat.le_of_ble_eq_true rfl, Nat.le_of_ble_eq_true rfl⟩ rfl hl.1 rfl (Nat.le_of_ble_eq_true rfl) dX11_add_12) (fun H locs hI => ?_)
    refine lv_if_ne (tgt := 20) hx hb dX11_add_15 (by decide) (fun c7 => ?_) (fun c7 => ?_)
    · have hm := g_f c7 hm
      refine lv_aload_n hx hb dX11_add_20 rfl (lv_at hl 0 rfl) ?_
      refine gR X hI fdX11_37 (la_0 hn) rf11_5 dX11_add_21 ?_
      refine lv_iload_n hx hb dX11_add_24 rfl (lv_at hl 1 rfl) ?_
      refine lv_iload_n hx hb dX11_add_25 rfl (lv_at hl 2 rfl) ?_
      obtain ⟨q8, h9, hm⟩ := g_b hm
      refine backI X hI (runV X hI (ctX0_hasRoom 43 x1 x2 (la_43 hn) hn _ _ h9 _) mdX11_191 (la_43 hn) rfl ⟨rfl, rfl⟩ ⟨Nat.le_of_ble_eq_true rfl, Nat.le_of_ble_eq_true rfl⟩ rfl hl.1 rfl (Nat.le_of_ble_eq_true rfl) dX11_add_26) (fun H locs hI => ?_)
      refine lv_if_ne (tgt := 35) hx hb dX11_add_29 (by decide) (fun c10 => ?_) (fun c10 => ?_)
      · have hm := g_f c10 hm
        refine lv_aload_n hx hb dX11_add_35 rfl (lv_at hl 0 rfl) ?_
        refine gR X hI fdX11_57 (la_0 hn) rf11_10 dX11_add_36 ?_
        refine lv_aload_n hx hb dX11_add_39 rfl (lv_at hl 0 rfl) ?_
        refine gR X hI fdX11_37 (la_0 hn) rf11_5 dX11_add_40 ?_
        obtain ⟨q11, h12, hm⟩ := g_b hm
        refine backV X hI (runV X hI (ctX7_save 43 (la_43 hn) hn _ _ h12 _) mdX11_195 (la_74 hn) rfl ⟨rfl, rfl⟩ ⟨Nat.le_of_ble_eq_true rfl, Nat.le_of_ble_eq_true rfl⟩ rfl hl.1 rfl (Nat.le_of_ble_eq_true rfl) dX11_add_43) (fun H locs hI => ?_)
        refine lv_aload_n hx hb dX11_add_46 rfl (lv_at hl 0 rfl) ?_
        refine gR X hI fdX11_37 (la_0 hn) rf11_5 dX11_add_47 ?_
        refine lv_iload_n hx hb dX11_add_50 rfl (lv_at hl 1 rfl) ?_
        refine lv_iload_n hx hb dX11_add_51 rfl (lv_at hl 2 rfl) ?_
        refine lv_sipush (v := (990 : Int32)) hx hb dX11_add_52 (by decide) ?_
        obtain ⟨q13, h14, hm⟩ := g_b hm
        refine backV X hI (runV X hI (ctX0_pourIn 43 x1 x2 (990 : Int32) (la_43 hn) hn _ _ h14 _) mdX11_199 (la_43 hn) rfl ⟨rfl, rfl⟩ ⟨Nat.le_of_ble_eq_true rfl, Nat.le_of_ble_eq_true rfl⟩ rfl hl.1 rfl (Nat.le_of_ble_eq_true rfl) dX11_add_55) (fun H locs hI => ?_)
        refine lv_aload_n hx hb dX11_add_58 rfl (lv_at hl 0 rfl) ?_
        refine gR X hI fdX11_37 (la_0 hn) rf11_5 dX11_add_59 ?_
        refine gR X hI fdX11_143 (la_43 hn) rf0_1 dX11_add_62 ?_
        refine lv_iload_n hx hb dX11_add_65 rfl (lv_at hl 1 rfl) ?_
        obtain ⟨g15, hm⟩ := g_no hm
        refine aI X hI (la_45 hn) g15 dX11_add_66 ?_
        exact rI X hI hr (g_p hm).1 (g_p hm).2 dX11_add_67
      · have hm := g_t c10 hm
        refine lv_bipush (v := (-2 : Int32)) hx hb dX11_add_32 (by decide) ?_
        exact rI X hI hr (g_p hm).1 (g_p hm).2 dX11_add_34
    · have hm := g_t c7 hm
      refine lv_iconst (v := (-1 : Int32)) hx hb dX11_add_18 (by decide) ?_
      exact rI X hI hr (g_p hm).1 (g_p hm).2 dX11_add_19
abbrev rmX11_pour : Room := { frames := 3, cells := 0, slots := 0, locals := 66 }
abbrev cwX11_pour : Cond := .code yX11_pour cX11_pour 4 (some .int)
theorem cmX11_pour : cwX11_pour ∈ BIG := (tb4 (List.mem_of_getElem? (i := 96) rfl) rfl)
def fX11_pour  (x1 : Int32) (x2 : Int32) (x3 : Int32) (m : Mem) : Option (Int32 × Mem) := if lay (m.2.2 3) = (0, 6) then ((fX6_hasTub (m.2.2 3) x1 m).bind (fun q2 => if q2 = 0 then (some ((-1 : Int32), m)) else (if lay (m.2.2 3) = (0, 6) then ((fX6_hasTub (m.2.2 3) x2 m).bind (fun q6 => if q6 = 0 then (some ((-1 : Int32), m)) else (if x1 = x2 then (some ((-1 : Int32), m)) else ((fX11_isPoured x3 m).bind (fun q10 => if q10 = 0 then (some ((-1 : Int32), m)) else (if x1 < 0 ∨ 6 ≤ x1.toNatClampNeg then none else (if (m.1 44 x1.toNatClampNeg) ≤ x3 then (some ((-2 : Int32), m)) else ((fX0_hasRoom 43 x2 x3 m).bind (fun q15 => if q15 = 0 then (some ((-2 : Int32), m)) else ((fX7_save 43 m).bind (fun q18 => if x1 < 0 ∨ 6 ≤ x1.toNatClampNeg then none else ((fX0_pourIn 43 x2 x3 (q18.1 45 x1.toNatClampNeg) q18).bind (fun q21 => if x1 < 0 ∨ 6 ≤ x1.toNatClampNeg then none else (if x1 < 0 ∨ 6 ≤ x1.toNatClampNeg then none else (if x2 < 0 ∨ 6 ≤ x2.toNatClampNeg then none else (some (((mI q21 44 x1.toNatClampNeg ((q21.1 44 x1.toNatClampNeg) - x3)).1 45 x2.toNatClampNeg), (mI q21 44 x1.toNatClampNeg ((q21.1 44 x1.toNatClampNeg) - x3))))))))))))))))))) else none))) else none
set_option maxHeartbeats 4000000 in
set_option maxRecDepth 100000 in
theorem ctX11_pour {l : Launch} {D : va_G} {ca : Nat → ClassId} {ad : Nat → Nat}  (x1 : Int32) (x2 : Int32) (x3 : Int32)  (hn : HNc ca) (m : Mem) (fin : (Int32 × Mem)) (hm : fX11_pour x1 x2 x3 m = some fin) : CI l D ca ad yX11_pour cwX11_pour rmX11_pour [.ref (ad 0), .int x1, .int x2, .int x3] m fin.1 fin.2 := by
  refine start (by decide) (Nat.le_of_ble_eq_true rfl) ?_
  intro p e s mm args below meth c H locs ls X hI hr hl
  have X : CX p s mm args meth c cX11_pour 4 RX11 D ca ad (WA ca ad s.heap.size) := X
  have hx := X.1
  have hb := X.2.1
  have hl : lv_has ls 4 [(0, .ref (ad 0)), (1, .int x1), (2, .int x2), (3, .int x3)] := hl
  have hm : (if lay (m.2.2 3) = (0, 6) then ((fX6_hasTub (m.2.2 3) x1 m).bind (fun q2 => if q2 = 0 then (some ((-1 : Int32), m)) else (if lay (m.2.2 3) = (0, 6) then ((fX6_hasTub (m.2.2 3) x2 m).bind (fun q6 => if q6 = 0 then (some ((-1 : Int32), m)) else (if x1 = x2 then (some ((-1 : Int32), m)) else ((fX11_isPoured x3 m).bind (fun q10 => if q10 = 0 then (some ((-1 : Int32), m)) else (if x1 < 0 ∨ 6 ≤ x1.toNatClampNeg then none else (if (m.1 44 x1.toNatClampNeg) ≤ x3 then (some ((-2 : Int32), m)) else ((fX0_hasRoom 43 x2 x3 m).bind (fun q15 => if q15 = 0 then (some ((-2 : Int32), m)) else ((fX7_save 43 m).bind (fun q18 => if x1 < 0 ∨ 6 ≤ x1.toNatClampNeg then none else ((fX0_pourIn 43 x2 x3 (q18.1 45 x1.toNatClampNeg) q18).bind (fun q21 => if x1 < 0 ∨ 6 ≤ x1.toNatClampNeg then none else (if x1 < 0 ∨ 6 ≤ x1.toNatClampNeg then none else (if x2 < 0 ∨ 6 ≤ x2.toNatClampNeg then none else (some (((mI q21 44 x1.toNatClampNeg ((q21.1 44 x1.toNatClampNeg) - x3)).1 45 x2.toNatClampNeg), (mI q21 44 x1.toNatClampNeg ((q21.1 44 x1.toNatClampNeg) - x3))))))))))))))))))) else none))) else none) = some fin := hm
  refine lv_aload_n hx hb dX11_pour_0 rfl (lv_at hl 0 rfl) ?_
  obtain ⟨g1, hm⟩ := g_is hm
  refine gR X hI fdX11_27 (la_0 hn) rf11_3 dX11_pour_1 ?_
  refine lv_iload_n hx hb dX11_pour_4 rfl (lv_at hl 1 rfl) ?_
  obtain ⟨q2, h3, hm⟩ := g_b hm
  refine backI X hI (runV X hI (ctX6_hasTub (m.2.2 3) x1 (lyO hn g1) hn _ _ h3 _) mdX11_128 (lyO hn g1) rfl ⟨rfl, rfl⟩ ⟨Nat.le_of_ble_eq_true rfl, Nat.le_of_ble_eq_true rfl⟩ rfl hl.1 rfl (Nat.le_of_ble_eq_true rfl) dX11_pour_5) (fun H locs hI => ?_)
  refine lv_if_eq (tgt := 34) hx hb dX11_pour_8 (by decide) (fun c4 => ?_) (fun c4 => ?_)
  · have hm := g_t c4 hm
    refine lv_iconst (v := (-1 : Int32)) hx hb dX11_pour_34 (by decide) ?_
    exact rI X hI hr (g_p hm).1 (g_p hm).2 dX11_pour_35
  · have hm := g_f c4 hm
    refine lv_aload_n hx hb dX11_pour_11 rfl (lv_at hl 0 rfl) ?_
    obtain ⟨g5, hm⟩ := g_is hm
    refine gR X hI fdX11_27 (la_0 hn) rf11_3 dX11_pour_12 ?_
    refine lv_iload_n hx hb dX11_pour_15 rfl (lv_at hl 2 rfl) ?_
    obtain ⟨q6, h7, hm⟩ := g_b hm
    refine backI X hI (runV X hI (ctX6_hasTub (m.2.2 3) x2 (lyO hn g5) hn _ _ h7 _) mdX11_128 (lyO hn g5) rfl ⟨rfl, rfl⟩ ⟨Nat.le_of_ble_eq_true rfl, Nat.le_of_ble_eq_true rfl⟩ rfl hl.1 rfl (Nat.le_of_ble_eq_true rfl) dX11_pour_16) (fun H locs hI => ?_)
    refine lv_if_eq (tgt := 34) hx hb dX11_pour_19 (by decide) (fun c8 => ?_) (fun c8 => ?_)
    · have hm := g_t c8 hm
      refine lv_iconst (v := (-1 : Int32)) hx hb dX11_pour_34 (by decide) ?_
      exact rI X hI hr (g_p hm).1 (g_p hm).2 dX11_pour_35
    · have hm := g_f c8 hm
      refine lv_iload_n hx hb dX11_pour_22 rfl (lv_at hl 1 rfl) ?_
      refine lv_iload_n hx hb dX11_pour_23 rfl (lv_at hl 2 rfl) ?_
      refine lv_icmp_eq (tgt := 34) hx hb dX11_pour_24 (by decide) (fun c9 => ?_) (fun c9 => ?_)
      · have hm := g_t c9 hm
        refine lv_iconst (v := (-1 : Int32)) hx hb dX11_pour_34 (by decide) ?_
        exact rI X hI hr (g_p hm).1 (g_p hm).2 dX11_pour_35
      · have hm := g_f c9 hm
        refine lv_iload_n hx hb dX11_pour_27 rfl (lv_at hl 3 rfl) ?_
        obtain ⟨q10, h11, hm⟩ := g_b hm
        refine backI X hI (runS X hI (ctX11_isPoured x3  hn _ _ h11 _) msX11_188 ⟨rfl, rfl⟩ ⟨Nat.le_of_ble_eq_true rfl, Nat.le_of_ble_eq_true rfl⟩ rfl hl.1 rfl (Nat.le_of_ble_eq_true rfl) dX11_pour_28) (fun H locs hI => ?_)
        refine lv_if_ne (tgt := 36) hx hb dX11_pour_31 (by decide) (fun c12 => ?_) (fun c12 => ?_)
        · have hm := g_f c12 hm
          refine lv_aload_n hx hb dX11_pour_36 rfl (lv_at hl 0 rfl) ?_
          refine gR X hI fdX11_37 (la_0 hn) rf11_5 dX11_pour_37 ?_
          refine gR X hI fdX11_139 (la_43 hn) rf0_0 dX11_pour_40 ?_
          refine lv_iload_n hx hb dX11_pour_43 rfl (lv_at hl 1 rfl) ?_
          obtain ⟨g13, hm⟩ := g_no hm
          refine aI X hI (la_44 hn) g13 dX11_pour_44 ?_
          refine lv_iload_n hx hb dX11_pour_45 rfl (lv_at hl 3 rfl) ?_
          refine lv_icmp_le (tgt := 61) hx hb dX11_pour_46 (by decide) (fun c14 => ?_) (fun c14 => ?_)
          · have hm := g_t c14 hm
            refine lv_bipush (v := (-2 : Int32)) hx hb dX11_pour_61 (by decide) ?_
            exact rI X hI hr (g_p hm).1 (g_p hm).2 dX11_pour_63
          · have hm := g_f c14 hm
            refine lv_aload_n hx hb dX11_pour_49 rfl (lv_at hl 0 rfl) ?_
            refine gR X hI fdX11_37 (la_0 hn) rf11_5 dX11_pour_50 ?_
            refine lv_iload_n hx hb dX11_pour_53 rfl (lv_at hl 2 rfl) ?_
            refine lv_iload_n hx hb dX11_pour_54 rfl (lv_at hl 3 rfl) ?_
            obtain ⟨q15, h16, hm⟩ := g_b hm
            refine backI X hI (runV X hI (ctX0_hasRoom 43 x2 x3 (la_43 hn) hn _ _ h16 _) mdX11_191 (la_43 hn) rfl ⟨rfl, rfl⟩ ⟨Nat.le_of_ble_eq_true rfl, Nat.le_of_ble_eq_true rfl⟩ rfl hl.1 rfl (Nat.le_of_ble_eq_true rfl) dX11_pour_55) (fun H locs hI => ?_)
            refine lv_if_ne (tgt := 64) hx hb dX11_pour_58 (by decide) (fun c17 => ?_) (fun c17 => ?_)
            · have hm := g_f c17 hm
              refine lv_aload_n hx hb dX11_pour_64 rfl (lv_at hl 0 rfl) ?_
              refine gR X hI fdX11_57 (la_0 hn) rf11_10 dX11_pour_65 ?_
              refine lv_aload_n hx hb dX11_pour_68 rfl (lv_at hl 0 rfl) ?_
              refine gR X hI fdX11_37 (la_0 hn) rf11_5 dX11_pour_69 ?_
              obtain ⟨q18, h19, hm⟩ := g_b hm
              refine backV X hI (runV X hI (ctX7_save 43 (la_43 hn) hn _ _ h19 _) mdX11_195 (la_74 hn) rfl ⟨rfl, rfl⟩ ⟨Nat.le_of_ble_eq_true rfl, Nat.le_of_ble_eq_true rfl⟩ rfl hl.1 rfl (Nat.le_of_ble_eq_true rfl) dX11_pour_72) (fun H locs hI => ?_)
              refine lv_aload_n hx hb dX11_pour_75 rfl (lv_at hl 0 rfl) ?_
              refine gR X hI fdX11_37 (la_0 hn) rf11_5 dX11_pour_76 ?_
              refine lv_iload_n hx hb dX11_pour_79 rfl (lv_at hl 2 rfl) ?_
              refine lv_iload_n hx hb dX11_pour_80 rfl (lv_at hl 3 rfl) ?_
              refine lv_aload_n hx hb dX11_pour_81 rfl (lv_at hl 0 rfl) ?_
              refine gR X hI fdX11_37 (la_0 hn) rf11_5 dX11_pour_82 ?_
              refine gR X hI fdX11_143 (la_43 hn) rf0_1 dX11_pour_85 ?_
              refine lv_iload_n hx hb dX11_pour_88 rfl (lv_at hl 1 rfl) ?_
              obtain ⟨g20, hm⟩ := g_no hm
              refine aI X hI (la_45 hn) g20 dX11_pour_89 ?_
              obtain ⟨q21, h22, hm⟩ := g_b hm
              refine backV X hI (runV X hI (ctX0_pourIn 43 x2 x3 (q18.1 45 x1.toNatClampNeg) (la_43 hn) hn _ _ h22 _) mdX11_199 (la_43 hn) rfl ⟨rfl, rfl⟩ ⟨Nat.le_of_ble_eq_true rfl, Nat.le_of_ble_eq_true rfl⟩ rfl hl.1 rfl (Nat.le_of_ble_eq_true rfl) dX11_pour_90) (fun H locs hI => ?_)
              refine lv_aload_n hx hb dX11_pour_93 rfl (lv_at hl 0 rfl) ?_
              refine gR X hI fdX11_37 (la_0 hn) rf11_5 dX11_pour_94 ?_
              refine gR X hI fdX11_139 (la_43 hn) rf0_0 dX11_pour_97 ?_
              refine lv_iload_n hx hb dX11_pour_100 rfl (lv_at hl 1 rfl) ?_
              refine lv_dup2_11 hx hb dX11_pour_101 rfl rfl ?_
              obtain ⟨g23, hm⟩ := g_no hm
              refine aI X hI (la_44 hn) g23 dX11_pour_102 ?_
              refine lv_iload_n hx hb dX11_pour_103 rfl (lv_at hl 3 rfl) ?_
              refine lv_isub hx hb dX11_pour_104 ?_
              obtain ⟨g24, hm⟩ := g_no hm
              refine sI X hI (la_44 hn) g24 dX11_pour_105 (fun H locs hI => ?_)
              refine lv_aload_n hx hb dX11_pour_106 rfl (lv_at hl 0 rfl) ?_
              refine gR X hI fdX11_37 (la_0 hn) rf11_5 dX11_pour_107 ?_
              refine gR X hI fdX11_143 (la_43 hn) rf0_1 dX11_pour_110 ?_
              refine lv_iload_n hx hb dX11_pour_113 rfl (lv_at hl 2 rfl) ?_
              obtain ⟨g25, hm⟩ := g_no hm
              refine aI X hI (la_45 hn) g25 dX11_pour_114 ?_
              exact rI X hI hr (g_p hm).1 (g_p hm).2 dX11_pour_115
            · have hm := g_t c17 hm
              refine lv_bipush (v := (-2 : Int32)) hx hb dX11_pour_61 (by decide) ?_
              exact rI X hI hr (g_p hm).1 (g_p hm).2 dX11_pour_63
        · have hm := g_t c12 hm
          refine lv_iconst (v := (-1 : Int32)) hx hb dX11_pour_34 (by decide) ?_
          exact rI X hI hr (g_p hm).1 (g_p hm).2 dX11_pour_35
abbrev rmX11_sit : Room := { frames := 3, cells := 0, slots := 0, locals := 64 }
abbrev cwX11_sit : Cond := .code yX11_sit cX11_sit 3 (some .boolean)
theorem cmX11_sit : cwX11_sit ∈ BIG := (tb4 (List.mem_of_getElem? (i := 100) rfl) rfl)
def fX11_sit  (x1 : Int32) (x2 : Int32) (m : Mem) : Option (Int32 × Mem) := if lay (m.2.2 3) = (0, 6) then ((fX6_hasKnight (m.2.2 3) x1 m).bind (fun q2 => if q2 = 0 then (some ((0 : Int32), m)) else (if lay (m.2.2 3) = (0, 6) then ((fX6_hasTub (m.2.2 3) x2 m).bind (fun q6 => if q6 = 0 then (some ((0 : Int32), m)) else (if x2 < 0 ∨ 6 ≤ x2.toNatClampNeg then none else (if (m.1 46 x2.toNatClampNeg) < 0 then ((fX7_save 43 m).bind (fun q11 => (fX0_enter 43 x1 x2 q11).bind (fun q13 => if q13.1 = 0 ∨ q13.1 = 1 then (some (q13.1, q13.2)) else none))) else (some ((0 : Int32), m)))))) else none))) else none
set_option maxHeartbeats 4000000 in
set_option maxRecDepth 100000 in
theorem ctX11_sit {l : Launch} {D : va_G} {ca : Nat → ClassId} {ad : Nat → Nat}  (x1 : Int32) (x2 : Int32)  (hn : HNc ca) (m : Mem) (fin : (Int32 × Mem)) (hm : fX11_sit x1 x2 m = some fin) : CI l D ca ad yX11_sit cwX11_sit rmX11_sit [.ref (ad 0), .int x1, .int x2] m fin.1 fin.2 := by
  refine start (by decide) (Nat.le_of_ble_eq_true rfl) ?_
  intro p e s mm args below meth c H locs ls X hI hr hl
  have X : CX p s mm args meth c cX11_sit 3 RX11 D ca ad (WA ca ad s.heap.size) := X
  have hx := X.1
  have hb := X.2.1
  have hl : lv_has ls 3 [(0, .ref (ad 0)), (1, .int x1), (2, .int x2)] := hl
  have hm : (if lay (m.2.2 3) = (0, 6) then ((fX6_hasKnight (m.2.2 3) x1 m).bind (fun q2 => if q2 = 0 then (some ((0 : Int32), m)) else (if lay (m.2.2 3) = (0, 6) then ((fX6_hasTub (m.2.2 3) x2 m).bind (fun q6 => if q6 = 0 then (some ((0 : Int32), m)) else (if x2 < 0 ∨ 6 ≤ x2.toNatClampNeg then none else (if (m.1 46 x2.toNatClampNeg) < 0 then ((fX7_save 43 m).bind (fun q11 => (fX0_enter 43 x1 x2 q11).bind (fun q13 => if q13.1 = 0 ∨ q13.1 = 1 then (some (q13.1, q13.2)) else none))) else (some ((0 : Int32), m)))))) else none))) else none) = some fin := hm
  refine lv_aload_n hx hb dX11_sit_0 rfl (lv_at hl 0 rfl) ?_
  obtain ⟨g1, hm⟩ := g_is hm
  refine gR X hI fdX11_27 (la_0 hn) rf11_3 dX11_sit_1 ?_
  refine lv_iload_n hx hb dX11_sit_4 rfl (lv_at hl 1 rfl) ?_
  obtain ⟨q2, h3, hm⟩ := g_b hm
  refine backI X hI (runV X hI (ctX6_hasKnight (m.2.2 3) x1 (lyO hn g1) hn _ _ h3 _) mdX11_154 (lyO hn g1) rfl ⟨rfl, rfl⟩ ⟨Nat.le_of_ble_eq_true rfl, Nat.le_of_ble_eq_true rfl⟩ rfl hl.1 rfl (Nat.le_of_ble_eq_true rfl) dX11_sit_5) (fun H locs hI => ?_)
  refine lv_if_eq (tgt := 34) hx hb dX11_sit_8 (by decide) (fun c4 => ?_) (fun c4 => ?_)
  · have hm := g_t c4 hm
    refine lv_iconst (v := (0 : Int32)) hx hb dX11_sit_34 (by decide) ?_
    exact rZ X hI hr (by decide) (g_p hm).1 (g_p hm).2 dX11_sit_35
  · have hm := g_f c4 hm
    refine lv_aload_n hx hb dX11_sit_11 rfl (lv_at hl 0 rfl) ?_
    obtain ⟨g5, hm⟩ := g_is hm
    refine gR X hI fdX11_27 (la_0 hn) rf11_3 dX11_sit_12 ?_
    refine lv_iload_n hx hb dX11_sit_15 rfl (lv_at hl 2 rfl) ?_
    obtain ⟨q6, h7, hm⟩ := g_b hm
    refine backI X hI (runV X hI (ctX6_hasTub (m.2.2 3) x2 (lyO hn g5) hn _ _ h7 _) mdX11_128 (lyO hn g5) rfl ⟨rfl, rfl⟩ ⟨Nat.le_of_ble_eq_true rfl, Nat.le_of_ble_eq_true rfl⟩ rfl hl.1 rfl (Nat.le_of_ble_eq_true rfl) dX11_sit_16) (fun H locs hI => ?_)
    refine lv_if_eq (tgt := 34) hx hb dX11_sit_19 (by decide) (fun c8 => ?_) (fun c8 => ?_)
    · have hm := g_t c8 hm
      refine lv_iconst (v := (0 : Int32)) hx hb dX11_sit_34 (by decide) ?_
      exact rZ X hI hr (by decide) (g_p hm).1 (g_p hm).2 dX11_sit_35
    · have hm := g_f c8 hm
      refine lv_aload_n hx hb dX11_sit_22 rfl (lv_at hl 0 rfl) ?_
      refine gR X hI fdX11_37 (la_0 hn) rf11_5 dX11_sit_23 ?_
      refine gR X hI fdX11_146 (la_43 hn) rf0_2 dX11_sit_26 ?_
      refine lv_iload_n hx hb dX11_sit_29 rfl (lv_at hl 2 rfl) ?_
      obtain ⟨g9, hm⟩ := g_no hm
      refine aI X hI (la_46 hn) g9 dX11_sit_30 ?_
      refine lv_if_lt (tgt := 36) hx hb dX11_sit_31 (by decide) (fun c10 => ?_) (fun c10 => ?_)
      · have hm := g_t c10 hm
        refine lv_aload_n hx hb dX11_sit_36 rfl (lv_at hl 0 rfl) ?_
        refine gR X hI fdX11_57 (la_0 hn) rf11_10 dX11_sit_37 ?_
        refine lv_aload_n hx hb dX11_sit_40 rfl (lv_at hl 0 rfl) ?_
        refine gR X hI fdX11_37 (la_0 hn) rf11_5 dX11_sit_41 ?_
        obtain ⟨q11, h12, hm⟩ := g_b hm
        refine backV X hI (runV X hI (ctX7_save 43 (la_43 hn) hn _ _ h12 _) mdX11_195 (la_74 hn) rfl ⟨rfl, rfl⟩ ⟨Nat.le_of_ble_eq_true rfl, Nat.le_of_ble_eq_true rfl⟩ rfl hl.1 rfl (Nat.le_of_ble_eq_true rfl) dX11_sit_44) (fun H locs hI => ?_)
        refine lv_aload_n hx hb dX11_sit_47 rfl (lv_at hl 0 rfl) ?_
        refine gR X hI fdX11_37 (la_0 hn) rf11_5 dX11_sit_48 ?_
        refine lv_iload_n hx hb dX11_sit_51 rfl (lv_at hl 1 rfl) ?_
        refine lv_iload_n hx hb dX11_sit_52 rfl (lv_at hl 2 rfl) ?_
        obtain ⟨q13, h14, hm⟩ := g_b hm
        refine backI X hI (runV X hI (ctX0_enter 43 x1 x2 (la_43 hn) hn _ _ h14 _) mdX11_203 (la_43 hn) rfl ⟨rfl, rfl⟩ ⟨Nat.le_of_ble_eq_true rfl, Nat.le_of_ble_eq_true rfl⟩ rfl hl.1 rfl (Nat.le_of_ble_eq_true rfl) dX11_sit_53) (fun H locs hI => ?_)
        obtain ⟨g15, hm⟩ := g_is hm
        exact rZ X hI hr g15 (g_p hm).1 (g_p hm).2 dX11_sit_56
      · have hm := g_f c10 hm
        refine lv_iconst (v := (0 : Int32)) hx hb dX11_sit_34 (by decide) ?_
        exact rZ X hI hr (by decide) (g_p hm).1 (g_p hm).2 dX11_sit_35
abbrev rmX11_rise : Room := { frames := 2, cells := 0, slots := 0, locals := 50 }
abbrev cwX11_rise : Cond := .code yX11_rise cX11_rise 2 (some .boolean)
theorem cmX11_rise : cwX11_rise ∈ BIG := (tb4 (List.mem_of_getElem? (i := 115) rfl) rfl)
def fX11_rise  (x1 : Int32) (m : Mem) : Option (Int32 × Mem) := if lay (m.2.2 3) = (0, 6) then ((fX6_hasKnight (m.2.2 3) x1 m).bind (fun q2 => if q2 = 0 then (some ((0 : Int32), m)) else (if x1 < 0 ∨ 6 ≤ x1.toNatClampNeg then none else (if 0 ≤ (m.1 48 x1.toNatClampNeg) then ((fX7_save 43 m).bind (fun q7 => (fX0_leave 43 x1 q7).bind (fun q9 => some ((1 : Int32), q9)))) else (some ((0 : Int32), m)))))) else none
set_option maxHeartbeats 4000000 in
set_option maxRecDepth 100000 in
theorem ctX11_rise {l : Launch} {D : va_G} {ca : Nat → ClassId} {ad : Nat → Nat}  (x1 : Int32)  (hn : HNc ca) (m : Mem) (fin : (Int32 × Mem)) (hm : fX11_rise x1 m = some fin) : CI l D ca ad yX11_rise cwX11_rise rmX11_rise [.ref (ad 0), .int x1] m fin.1 fin.2 := by
  refine start (by decide) (Nat.le_of_ble_eq_true rfl) ?_
  intro p e s mm args below meth c H locs ls X hI hr hl
  have X : CX p s mm args meth c cX11_rise 2 RX11 D ca ad (WA ca ad s.heap.size) := X
  have hx := X.1
  have hb := X.2.1
  have hl : lv_has ls 2 [(0, .ref (ad 0)), (1, .int x1)] := hl
  have hm : (if lay (m.2.2 3) = (0, 6) then ((fX6_hasKnight (m.2.2 3) x1 m).bind (fun q2 => if q2 = 0 then (some ((0 : Int32), m)) else (if x1 < 0 ∨ 6 ≤ x1.toNatClampNeg then none else (if 0 ≤ (m.1 48 x1.toNatClampNeg) then ((fX7_save 43 m).bind (fun q7 => (fX0_leave 43 x1 q7).bind (fun q9 => some ((1 : Int32), q9)))) else (some ((0 : Int32), m)))))) else none) = some fin := hm
  refine lv_aload_n hx hb dX11_rise_0 rfl (lv_at hl 0 rfl) ?_
  obtain ⟨g1, hm⟩ := g_is hm
  refine gR X hI fdX11_27 (la_0 hn) rf11_3 dX11_rise_1 ?_
  refine lv_iload_n hx hb dX11_rise_4 rfl (lv_at hl 1 rfl) ?_
  obtain ⟨q2, h3, hm⟩ := g_b hm
  refine backI X hI (runV X hI (ctX6_hasKnight (m.2.2 3) x1 (lyO hn g1) hn _ _ h3 _) mdX11_154 (lyO hn g1) rfl ⟨rfl, rfl⟩ ⟨Nat.le_of_ble_eq_true rfl, Nat.le_of_ble_eq_true rfl⟩ rfl hl.1 rfl (Nat.le_of_ble_eq_true rfl) dX11_rise_5) (fun H locs hI => ?_)
  refine lv_if_eq (tgt := 23) hx hb dX11_rise_8 (by decide) (fun c4 => ?_) (fun c4 => ?_)
  · have hm := g_t c4 hm
    refine lv_iconst (v := (0 : Int32)) hx hb dX11_rise_23 (by decide) ?_
    exact rZ X hI hr (by decide) (g_p hm).1 (g_p hm).2 dX11_rise_24
  · have hm := g_f c4 hm
    refine lv_aload_n hx hb dX11_rise_11 rfl (lv_at hl 0 rfl) ?_
    refine gR X hI fdX11_37 (la_0 hn) rf11_5 dX11_rise_12 ?_
    refine gR X hI fdX11_163 (la_43 hn) rf0_4 dX11_rise_15 ?_
    refine lv_iload_n hx hb dX11_rise_18 rfl (lv_at hl 1 rfl) ?_
    obtain ⟨g5, hm⟩ := g_no hm
    refine aI X hI (la_48 hn) g5 dX11_rise_19 ?_
    refine lv_if_ge (tgt := 25) hx hb dX11_rise_20 (by decide) (fun c6 => ?_) (fun c6 => ?_)
    · have hm := g_t c6 hm
      refine lv_aload_n hx hb dX11_rise_25 rfl (lv_at hl 0 rfl) ?_
      refine gR X hI fdX11_57 (la_0 hn) rf11_10 dX11_rise_26 ?_
      refine lv_aload_n hx hb dX11_rise_29 rfl (lv_at hl 0 rfl) ?_
      refine gR X hI fdX11_37 (la_0 hn) rf11_5 dX11_rise_30 ?_
      obtain ⟨q7, h8, hm⟩ := g_b hm
      refine backV X hI (runV X hI (ctX7_save 43 (la_43 hn) hn _ _ h8 _) mdX11_195 (la_74 hn) rfl ⟨rfl, rfl⟩ ⟨Nat.le_of_ble_eq_true rfl, Nat.le_of_ble_eq_true rfl⟩ rfl hl.1 rfl (Nat.le_of_ble_eq_true rfl) dX11_rise_33) (fun H locs hI => ?_)
      refine lv_aload_n hx hb dX11_rise_36 rfl (lv_at hl 0 rfl) ?_
      refine gR X hI fdX11_37 (la_0 hn) rf11_5 dX11_rise_37 ?_
      refine lv_iload_n hx hb dX11_rise_40 rfl (lv_at hl 1 rfl) ?_
      obtain ⟨q9, h10, hm⟩ := g_b hm
      refine backV X hI (runV X hI (ctX0_leave 43 x1 (la_43 hn) hn _ _ h10 _) mdX11_206 (la_43 hn) rfl ⟨rfl, rfl⟩ ⟨Nat.le_of_ble_eq_true rfl, Nat.le_of_ble_eq_true rfl⟩ rfl hl.1 rfl (Nat.le_of_ble_eq_true rfl) dX11_rise_41) (fun H locs hI => ?_)
      refine lv_iconst (v := (1 : Int32)) hx hb dX11_rise_44 (by decide) ?_
      exact rZ X hI hr (by decide) (g_p hm).1 (g_p hm).2 dX11_rise_45
    · have hm := g_f c6 hm
      refine lv_iconst (v := (0 : Int32)) hx hb dX11_rise_23 (by decide) ?_
      exact rZ X hI hr (by decide) (g_p hm).1 (g_p hm).2 dX11_rise_24
abbrev rmX11_go : Room := { frames := 7, cells := 0, slots := 0, locals := 179 }
abbrev cwX11_go : Cond := .code yX11_go cX11_go 2 (some .int)
theorem cmX11_go : cwX11_go ∈ BIG := (tb4 (List.mem_of_getElem? (i := 120) rfl) rfl)
def fX11_go (N : Nat) (x1 : Int32) (m : Mem) : Option (Int32 × Mem) := if x1 < 0 then (some ((-1 : Int32), m)) else (if (200 : Int32) < x1 then (some ((-1 : Int32), m)) else (if ((m.1 43 9) + x1) ≤ (9800 : Int32) then ((fX5_drawn  m).bind (fun q4 => if lay (q4.2.2 3) = (0, 6) then ((fX5_passMany N (q4.2.2 3) 43 x1 q4).bind (fun q7 => if x1 ≤ 0 then (some ((q7.1 43 9), q7)) else ((fX7_forget  q7).bind (fun q10 => some ((q10.1 43 9), q10))))) else none)) else (some ((-1 : Int32), m))))
set_option maxHeartbeats 4000000 in
set_option maxRecDepth 100000 in
theorem ctX11_go {l : Launch} {D : va_G} {ca : Nat → ClassId} {ad : Nat → Nat} (N : Nat) (x1 : Int32)  (hn : HNc ca) (m : Mem) (fin : (Int32 × Mem)) (hm : fX11_go N x1 m = some fin) : CI l D ca ad yX11_go cwX11_go rmX11_go [.ref (ad 0), .int x1] m fin.1 fin.2 := by
  refine start (by decide) (Nat.le_of_ble_eq_true rfl) ?_
  intro p e s mm args below meth c H locs ls X hI hr hl
  have X : CX p s mm args meth c cX11_go 2 RX11 D ca ad (WA ca ad s.heap.size) := X
  have hx := X.1
  have hb := X.2.1
  have hl : lv_has ls 2 [(0, .ref (ad 0)), (1, .int x1)] := hl
  have hm : (if x1 < 0 then (some ((-1 : Int32), m)) else (if (200 : Int32) < x1 then (some ((-1 : Int32), m)) else (if ((m.1 43 9) + x1) ≤ (9800 : Int32) then ((fX5_drawn  m).bind (fun q4 => if lay (q4.2.2 3) = (0, 6) then ((fX5_passMany N (q4.2.2 3) 43 x1 q4).bind (fun q7 => if x1 ≤ 0 then (some ((q7.1 43 9), q7)) else ((fX7_forget  q7).bind (fun q10 => some ((q10.1 43 9), q10))))) else none)) else (some ((-1 : Int32), m))))) = some fin := hm
  refine lv_iload_n hx hb dX11_go_0 rfl (lv_at hl 1 rfl) ?_
  refine lv_if_lt (tgt := 26) hx hb dX11_go_1 (by decide) (fun c1 => ?_) (fun c1 => ?_)
  · have hm := g_t c1 hm
    refine lv_iconst (v := (-1 : Int32)) hx hb dX11_go_26 (by decide) ?_
    exact rI X hI hr (g_p hm).1 (g_p hm).2 dX11_go_27
  · have hm := g_f c1 hm
    refine lv_iload_n hx hb dX11_go_4 rfl (lv_at hl 1 rfl) ?_
    refine lv_sipush (v := (200 : Int32)) hx hb dX11_go_5 (by decide) ?_
    refine lv_icmp_gt (tgt := 26) hx hb dX11_go_8 (by decide) (fun c2 => ?_) (fun c2 => ?_)
    · have hm := g_t c2 hm
      refine lv_iconst (v := (-1 : Int32)) hx hb dX11_go_26 (by decide) ?_
      exact rI X hI hr (g_p hm).1 (g_p hm).2 dX11_go_27
    · have hm := g_f c2 hm
      refine lv_aload_n hx hb dX11_go_11 rfl (lv_at hl 0 rfl) ?_
      refine gR X hI fdX11_37 (la_0 hn) rf11_5 dX11_go_12 ?_
      refine gI X hI fdX11_209 (la_43 hn) dX11_go_15 ?_
      refine lv_iload_n hx hb dX11_go_18 rfl (lv_at hl 1 rfl) ?_
      refine lv_iadd hx hb dX11_go_19 ?_
      refine lv_sipush (v := (9800 : Int32)) hx hb dX11_go_20 (by decide) ?_
      refine lv_icmp_le (tgt := 28) hx hb dX11_go_23 (by decide) (fun c3 => ?_) (fun c3 => ?_)
      · have hm := g_t c3 hm
        refine lv_aload_n hx hb dX11_go_28 rfl (lv_at hl 0 rfl) ?_
        refine gR X hI fdX11_50 (la_0 hn) rf11_9 dX11_go_29 ?_
        obtain ⟨q4, h5, hm⟩ := g_b hm
        refine backV X hI (runV X hI (ctX5_drawn   hn _ _ h5 _) mdX11_212 (la_73 hn) rfl ⟨rfl, rfl⟩ ⟨Nat.le_of_ble_eq_true rfl, Nat.le_of_ble_eq_true rfl⟩ rfl hl.1 rfl (Nat.le_of_ble_eq_true rfl) dX11_go_32) (fun H locs hI => ?_)
        refine lv_aload_n hx hb dX11_go_35 rfl (lv_at hl 0 rfl) ?_
        refine gR X hI fdX11_50 (la_0 hn) rf11_9 dX11_go_36 ?_
        refine lv_aload_n hx hb dX11_go_39 rfl (lv_at hl 0 rfl) ?_
        obtain ⟨g6, hm⟩ := g_is hm
        refine gR X hI fdX11_27 (la_0 hn) rf11_3 dX11_go_40 ?_
        refine lv_aload_n hx hb dX11_go_43 rfl (lv_at hl 0 rfl) ?_
        refine gR X hI fdX11_37 (la_0 hn) rf11_5 dX11_go_44 ?_
        refine lv_iload_n hx hb dX11_go_47 rfl (lv_at hl 1 rfl) ?_
        obtain ⟨q7, h8, hm⟩ := g_b hm
        refine backV X hI (runV X hI (ctX5_passMany N (q4.2.2 3) 43 x1 (lyO hn g6) (la_43 hn) hn _ _ h8 _) mdX11_215 (la_73 hn) rfl ⟨rfl, rfl⟩ ⟨Nat.le_of_ble_eq_true rfl, Nat.le_of_ble_eq_true rfl⟩ rfl hl.1 rfl (Nat.le_of_ble_eq_true rfl) dX11_go_48) (fun H locs hI => ?_)
        refine lv_iload_n hx hb dX11_go_51 rfl (lv_at hl 1 rfl) ?_
        refine lv_if_le (tgt := 62) hx hb dX11_go_52 (by decide) (fun c9 => ?_) (fun c9 => ?_)
        · have hm := g_t c9 hm
          refine lv_aload_n hx hb dX11_go_62 rfl (lv_at hl 0 rfl) ?_
          refine gR X hI fdX11_37 (la_0 hn) rf11_5 dX11_go_63 ?_
          refine gI X hI fdX11_209 (la_43 hn) dX11_go_66 ?_
          exact rI X hI hr (g_p hm).1 (g_p hm).2 dX11_go_69
        · have hm := g_f c9 hm
          refine lv_aload_n hx hb dX11_go_55 rfl (lv_at hl 0 rfl) ?_
          refine gR X hI fdX11_57 (la_0 hn) rf11_10 dX11_go_56 ?_
          obtain ⟨q10, h11, hm⟩ := g_b hm
          refine backV X hI (runV X hI (ctX7_forget   hn _ _ h11 _) mdX11_101 (la_74 hn) rfl ⟨rfl, rfl⟩ ⟨Nat.le_of_ble_eq_true rfl, Nat.le_of_ble_eq_true rfl⟩ rfl hl.1 rfl (Nat.le_of_ble_eq_true rfl) dX11_go_59) (fun H locs hI => ?_)
          refine lv_aload_n hx hb dX11_go_62 rfl (lv_at hl 0 rfl) ?_
          refine gR X hI fdX11_37 (la_0 hn) rf11_5 dX11_go_63 ?_
          refine gI X hI fdX11_209 (la_43 hn) dX11_go_66 ?_
          exact rI X hI hr (g_p hm).1 (g_p hm).2 dX11_go_69
      · have hm := g_f c3 hm
        refine lv_iconst (v := (-1 : Int32)) hx hb dX11_go_26 (by decide) ?_
        exact rI X hI hr (g_p hm).1 (g_p hm).2 dX11_go_27
abbrev rmX11_tryAsItGoes : Room := { frames := 2, cells := 0, slots := 0, locals := 49 }
def fX11_tryAsItGoes   (m : Mem) : Option Mem := (fX0_become 53 43 m).bind (fun q1 => if lay (q1.2.2 3) = (0, 6) then ((fX5_asItGoes (q1.2.2 3) q1).bind (fun q4 => some q4)) else none)
set_option maxHeartbeats 4000000 in
set_option maxRecDepth 100000 in
theorem ctX11_tryAsItGoes {l : Launch} {D : va_G} {ca : Nat → ClassId} {ad : Nat → Nat}    (hn : HNc ca) (m : Mem) (fin : Mem) (hm : fX11_tryAsItGoes  m = some fin) : CV l D ca ad yX11_tryAsItGoes cwX11_tryAsItGoes rmX11_tryAsItGoes [.ref (ad 0)] m fin := by
  refine start (by decide) (Nat.le_of_ble_eq_true rfl) ?_
  intro p e s mm args below meth c H locs ls X hI hr hl
  have X : CX p s mm args meth c cX11_tryAsItGoes 1 RX11 D ca ad (WA ca ad s.heap.size) := X
  have hx := X.1
  have hb := X.2.1
  have hl : lv_has ls 1 [(0, .ref (ad 0))] := hl
  have hm : ((fX0_become 53 43 m).bind (fun q1 => if lay (q1.2.2 3) = (0, 6) then ((fX5_asItGoes (q1.2.2 3) q1).bind (fun q4 => some q4)) else none)) = some fin := hm
  refine lv_aload_n hx hb dX11_tryAsItGoes_0 rfl (lv_at hl 0 rfl) ?_
  refine gR X hI fdX11_41 (la_0 hn) rf11_6 dX11_tryAsItGoes_1 ?_
  refine lv_aload_n hx hb dX11_tryAsItGoes_4 rfl (lv_at hl 0 rfl) ?_
  refine gR X hI fdX11_37 (la_0 hn) rf11_5 dX11_tryAsItGoes_5 ?_
  obtain ⟨q1, h2, hm⟩ := g_b hm
  refine backV X hI (runV X hI (ctX0_become 53 43 (la_53 hn) (la_43 hn) hn _ _ h2 _) mdX11_226 (la_53 hn) rfl ⟨rfl, rfl⟩ ⟨Nat.le_of_ble_eq_true rfl, Nat.le_of_ble_eq_true rfl⟩ rfl hl.1 rfl (Nat.le_of_ble_eq_true rfl) dX11_tryAsItGoes_8) (fun H locs hI => ?_)
  refine lv_aload_n hx hb dX11_tryAsItGoes_11 rfl (lv_at hl 0 rfl) ?_
  refine gR X hI fdX11_50 (la_0 hn) rf11_9 dX11_tryAsItGoes_12 ?_
  refine lv_aload_n hx hb dX11_tryAsItGoes_15 rfl (lv_at hl 0 rfl) ?_
  obtain ⟨g3, hm⟩ := g_is hm
  refine gR X hI fdX11_27 (la_0 hn) rf11_3 dX11_tryAsItGoes_16 ?_
  obtain ⟨q4, h5, hm⟩ := g_b hm
  refine backV X hI (runV X hI (ctX5_asItGoes (q1.2.2 3) (lyO hn g3) hn _ _ h5 _) mdX11_229 (la_73 hn) rfl ⟨rfl, rfl⟩ ⟨Nat.le_of_ble_eq_true rfl, Nat.le_of_ble_eq_true rfl⟩ rfl hl.1 rfl (Nat.le_of_ble_eq_true rfl) dX11_tryAsItGoes_19) (fun H locs hI => ?_)
  exact rV X hI hr (g_1 hm) dX11_tryAsItGoes_22
abbrev rmX11_sumOf : Room := { frames := 0, cells := 0, slots := 0, locals := 0 }
def fX11_sumOf_4 (N : Nat) : Nat → Nat → Int32 → Int32 → Mem → Option Int32
  | 0, _, _, _, _ => none
  | n + 1, x0, x1, x2, m => if (Int32.ofNat (lay x0).2) ≤ x2 then (some x1) else (if x2 < 0 ∨ (lay x0).2 ≤ x2.toNatClampNeg then none else (fX11_sumOf_4 N n x0 (x1 + (m.1 x0 x2.toNatClampNeg)) (x2 + (1 : Int32)) m))
set_option maxHeartbeats 4000000 in
set_option maxRecDepth 100000 in
theorem tX11_sumOf_4 (N : Nat) {l : Launch} {D : va_G} {ca : Nat → ClassId} {ad : Nat → Nat} {p : Program} {e : Env} {s : State} {mm : MethodId} {args : Array Value} {below : List Frame} {meth : Method} {c : Code}  (hn : HNc ca) (X : CX p s mm args meth c cX11_sumOf 3 RX11 D ca ad (WA ca ad s.heap.size)) (hr : meth.sig.returnType = (some .int)) (fin : Int32) (m0 : Mem)  : ∀ (n : Nat) (x0 : Nat) (x1 : Int32) (x2 : Int32) (m : Mem) (H : Heap) (locs : List Loc) (ls : Array Slot), ly ca x0 = (1, (lay x0).2) → IW D ca ad (WA ca ad s.heap.size) s m H locs → lv_has ls 3 [(0, .ref (ad x0)), (1, .int x1), (2, .int x2)] → fX11_sumOf_4 N n x0 x1 x2 m = some fin → m = m0 → W p l e rmX11_sumOf s mm args below meth c H locs 0 0 (MQ below (QI D ca ad s.heap.size fin m0) args s 0 0 (WA ca ad s.heap.size)) (F0 mm 4 ls []) := by
  have hx := X.1
  have hb := X.2.1
  intro n
  induction n with
  | zero => intro x0 x1 x2 m H locs ls hx0 hI hl hm hpm
            exact absurd hm (by intro q; cases q)
  | succ n ih =>
    intro x0 x1 x2 m H locs ls hx0 hI hl hm hpm
    have hm : (if (Int32.ofNat (lay x0).2) ≤ x2 then (some x1) else (if x2 < 0 ∨ (lay x0).2 ≤ x2.toNatClampNeg then none else (fX11_sumOf_4 N n x0 (x1 + (m.1 x0 x2.toNatClampNeg)) (x2 + (1 : Int32)) m))) = some fin := hm
    refine lv_iload_n hx hb dX11_sumOf_4 rfl (lv_at hl 2 rfl) ?_
    refine lv_aload_n hx hb dX11_sumOf_5 rfl (lv_at hl 0 rfl) ?_
    refine nA X hI hx0 dX11_sumOf_6 ?_
    refine lv_icmp_ge (tgt := 22) hx hb dX11_sumOf_7 (by decide) (fun c1 => ?_) (fun c1 => ?_)
    · have hm := g_t c1 hm
      refine lv_iload_n hx hb dX11_sumOf_22 rfl (lv_at hl 1 rfl) ?_
      exact rI X hI hr (g_1 hm) hpm dX11_sumOf_23
    · have hm := g_f c1 hm
      refine lv_iload_n hx hb dX11_sumOf_10 rfl (lv_at hl 1 rfl) ?_
      refine lv_aload_n hx hb dX11_sumOf_11 rfl (lv_at hl 0 rfl) ?_
      refine lv_iload_n hx hb dX11_sumOf_12 rfl (lv_at hl 2 rfl) ?_
      obtain ⟨g2, hm⟩ := g_no hm
      refine aI X hI hx0 g2 dX11_sumOf_13 ?_
      refine lv_iadd hx hb dX11_sumOf_14 ?_
      refine lv_istore_n (lv' := [(1, .int (x1 + (m.1 x0 x2.toNatClampNeg))), (0, .ref (ad x0)), (2, .int x2)]) hx hb dX11_sumOf_15 rfl hl (by decide) rfl (fun ls hl => ?_)
      refine lv_iinc (v := (x2 + (1 : Int32))) (lv' := [(2, .int (x2 + (1 : Int32))), (1, .int (x1 + (m.1 x0 x2.toNatClampNeg))), (0, .ref (ad x0))]) hx hb dX11_sumOf_16 hl (k := 2) rfl rfl (by decide) rfl (fun ls hl => ?_)
      refine lv_goto (tgt := 4) hx hb dX11_sumOf_19 (by decide) ?_
      exact ih x0 (x1 + (m.1 x0 x2.toNatClampNeg)) (x2 + (1 : Int32)) m H locs ls hx0 hI (lv_sub hl [2, 1, 0] rfl) hm hpm
def fX11_sumOf (N : Nat) (x0 : Nat) (m : Mem) : Option Int32 := fX11_sumOf_4 N N x0 (0 : Int32) (0 : Int32) m
set_option maxHeartbeats 4000000 in
set_option maxRecDepth 100000 in
theorem ctX11_sumOf {l : Launch} {D : va_G} {ca : Nat → ClassId} {ad : Nat → Nat} (N : Nat) (x0 : Nat) (hx0 : ly ca x0 = (1, (lay x0).2)) (hn : HNc ca) (m : Mem) (fin : Int32) (hm : fX11_sumOf N x0 m = some fin) : CI l D ca ad yX11_sumOf cwX11_sumOf rmX11_sumOf [.ref (ad x0)] m fin m := by
  refine start (by decide) (Nat.le_of_ble_eq_true rfl) ?_
  intro p e s mm args below meth c H locs ls X hI hr hl
  have X : CX p s mm args meth c cX11_sumOf 3 RX11 D ca ad (WA ca ad s.heap.size) := X
  have hx := X.1
  have hb := X.2.1
  have hl : lv_has ls 3 [(0, .ref (ad x0))] := hl
  have hm : (fX11_sumOf_4 N N x0 (0 : Int32) (0 : Int32) m) = some fin := hm
  have hpm : m = m := rfl
  refine lv_iconst (v := (0 : Int32)) hx hb dX11_sumOf_0 (by decide) ?_
  refine lv_istore_n (lv' := [(1, .int (0 : Int32)), (0, .ref (ad x0))]) hx hb dX11_sumOf_1 rfl hl (by decide) rfl (fun ls hl => ?_)
  refine lv_iconst (v := (0 : Int32)) hx hb dX11_sumOf_2 (by decide) ?_
  refine lv_istore_n (lv' := [(2, .int (0 : Int32)), (1, .int (0 : Int32)), (0, .ref (ad x0))]) hx hb dX11_sumOf_3 rfl hl (by decide) rfl (fun ls hl => ?_)
  exact tX11_sumOf_4 N hn X hr fin m  N x0 (0 : Int32) (0 : Int32) m H locs ls hx0 hI (lv_sub hl [2, 1, 0] rfl) hm hpm
abbrev rmX11_ahead : Room := { frames := 7, cells := 0, slots := 0, locals := 179 }
abbrev cwX11_ahead : Cond := .code yX11_ahead cX11_ahead 4 (some .int)
theorem cmX11_ahead : cwX11_ahead ∈ BIG := (tb4 (List.mem_of_getElem? (i := 181) rfl) rfl)
def fX11_ahead_61 (N : Nat) (x1 : Int32) (x2 : Int32) (x3 : Int32) (m : Mem) : Option (Int32 × Mem) := (fX11_tryAsItGoes  m).bind (fun q11 => if lay (q11.2.2 3) = (0, 6) then ((fX5_passMany N (q11.2.2 3) 53 x1 q11).bind (fun q14 => if x2 = (0 : Int32) then (if x3 < 0 ∨ 6 ≤ x3.toNatClampNeg then none else (some ((q14.1 55 x3.toNatClampNeg), q14))) else (if x2 = (1 : Int32) then (if x3 < 0 ∨ 6 ≤ x3.toNatClampNeg then none else (some ((q14.1 54 x3.toNatClampNeg), q14))) else (if x2 = (2 : Int32) then (if x3 < 0 ∨ 6 ≤ x3.toNatClampNeg then none else (some ((q14.1 59 x3.toNatClampNeg), q14))) else (if x2 = (3 : Int32) then (if x3 < 0 ∨ 6 ≤ x3.toNatClampNeg then none else (some ((q14.1 60 x3.toNatClampNeg), q14))) else ((fX11_sumOf N 62 q14).bind (fun q24 => (fX11_sumOf N 52 q14).bind (fun q26 => some ((q24 - q26), q14))))))))) else none)
set_option maxHeartbeats 4000000 in
set_option maxRecDepth 100000 in
theorem tX11_ahead_61 (N : Nat) {l : Launch} {D : va_G} {ca : Nat → ClassId} {ad : Nat → Nat} {p : Program} {e : Env} {s : State} {mm : MethodId} {args : Array Value} {below : List Frame} {meth : Method} {c : Code}  (hn : HNc ca) (X : CX p s mm args meth c cX11_ahead 4 RX11 D ca ad (WA ca ad s.heap.size)) (hr : meth.sig.returnType = (some .int)) (fin : (Int32 × Mem))  : ∀ (x1 : Int32) (x2 : Int32) (x3 : Int32) (m : Mem) (H : Heap) (locs : List Loc) (ls : Array Slot), IW D ca ad (WA ca ad s.heap.size) s m H locs → lv_has ls 4 [(0, .ref (ad 0)), (1, .int x1), (2, .int x2), (3, .int x3)] → fX11_ahead_61 N x1 x2 x3 m = some fin → W p l e rmX11_ahead s mm args below meth c H locs 0 0 (MQ below (QI D ca ad s.heap.size fin.1 fin.2) args s 0 0 (WA ca ad s.heap.size)) (F0 mm 61 ls []) := by
  have hx := X.1
  have hb := X.2.1
  intro x1 x2 x3 m H locs ls hI hl hm
  have hm : ((fX11_tryAsItGoes  m).bind (fun q11 => if lay (q11.2.2 3) = (0, 6) then ((fX5_passMany N (q11.2.2 3) 53 x1 q11).bind (fun q14 => if x2 = (0 : Int32) then (if x3 < 0 ∨ 6 ≤ x3.toNatClampNeg then none else (some ((q14.1 55 x3.toNatClampNeg), q14))) else (if x2 = (1 : Int32) then (if x3 < 0 ∨ 6 ≤ x3.toNatClampNeg then none else (some ((q14.1 54 x3.toNatClampNeg), q14))) else (if x2 = (2 : Int32) then (if x3 < 0 ∨ 6 ≤ x3.toNatClampNeg then none else (some ((q14.1 59 x3.toNatClampNeg), q14))) else (if x2 = (3 : Int32) then (if x3 < 0 ∨ 6 ≤ x3.toNatClampNeg then none else (some ((q14.1 60 x3.toNatClampNeg), q14))) else ((fX11_sumOf N 62 q14).bind (fun q24 => (fX11_sumOf N 52 q14).bind (fun q26 => some ((q24 - q26), q14))))))))) else none)) = some fin := hm
  refine lv_aload_n hx hb dX11_ahead_61 rfl (lv_at hl 0 rfl) ?_
  obtain ⟨q11, h12, hm⟩ := g_b hm
  refine backV X hI (runV X hI (ctX11_tryAsItGoes   hn _ _ h12 _) mdX11_219 (la_0 hn) rfl ⟨rfl, rfl⟩ ⟨Nat.le_of_ble_eq_true rfl, Nat.le_of_ble_eq_true rfl⟩ rfl hl.1 rfl (Nat.le_of_ble_eq_true rfl) dX11_ahead_62) (fun H locs hI => ?_)
  refine lv_aload_n hx hb dX11_ahead_65 rfl (lv_at hl 0 rfl) ?_
  refine gR X hI fdX11_50 (la_0 hn) rf11_9 dX11_ahead_66 ?_
  refine lv_aload_n hx hb dX11_ahead_69 rfl (lv_at hl 0 rfl) ?_
  obtain ⟨g13, hm⟩ := g_is hm
  refine gR X hI fdX11_27 (la_0 hn) rf11_3 dX11_ahead_70 ?_
  refine lv_aload_n hx hb dX11_ahead_73 rfl (lv_at hl 0 rfl) ?_
  refine gR X hI fdX11_41 (la_0 hn) rf11_6 dX11_ahead_74 ?_
  refine lv_iload_n hx hb dX11_ahead_77 rfl (lv_at hl 1 rfl) ?_
  obtain ⟨q14, h15, hm⟩ := g_b hm
  refine backV X hI (runV X hI (ctX5_passMany N (q11.2.2 3) 53 x1 (lyO hn g13) (la_53 hn) hn _ _ h15 _) mdX11_215 (la_73 hn) rfl ⟨rfl, rfl⟩ ⟨Nat.le_of_ble_eq_true rfl, Nat.le_of_ble_eq_true rfl⟩ rfl hl.1 rfl (Nat.le_of_ble_eq_true rfl) dX11_ahead_78) (fun H locs hI => ?_)
  refine lv_iload_n hx hb dX11_ahead_81 rfl (lv_at hl 2 rfl) ?_
  by_cases c16 : x2 = (0 : Int32)
  · have hm := g_t c16 hm
    refine lv_tableIn (tgt := 112) hx hb dX11_ahead_82 (by rw [c16]; decide) (by rw [c16]; decide) (off := 30) (by rw [c16]; decide) (by decide) ?_
    refine lv_aload_n hx hb dX11_ahead_112 rfl (lv_at hl 0 rfl) ?_
    refine gR X hI fdX11_41 (la_0 hn) rf11_6 dX11_ahead_113 ?_
    refine gR X hI fdX11_143 (la_53 hn) rf0_1 dX11_ahead_116 ?_
    refine lv_iload_n hx hb dX11_ahead_119 rfl (lv_at hl 3 rfl) ?_
    obtain ⟨g17, hm⟩ := g_no hm
    refine aI X hI (la_55 hn) g17 dX11_ahead_120 ?_
    exact rI X hI hr (g_p hm).1 (g_p hm).2 dX11_ahead_121
  · have hm := g_f c16 hm
    by_cases c18 : x2 = (1 : Int32)
    · have hm := g_t c18 hm
      refine lv_tableIn (tgt := 122) hx hb dX11_ahead_82 (by rw [c18]; decide) (by rw [c18]; decide) (off := 40) (by rw [c18]; decide) (by decide) ?_
      refine lv_aload_n hx hb dX11_ahead_122 rfl (lv_at hl 0 rfl) ?_
      refine gR X hI fdX11_41 (la_0 hn) rf11_6 dX11_ahead_123 ?_
      refine gR X hI fdX11_139 (la_53 hn) rf0_0 dX11_ahead_126 ?_
      refine lv_iload_n hx hb dX11_ahead_129 rfl (lv_at hl 3 rfl) ?_
      obtain ⟨g19, hm⟩ := g_no hm
      refine aI X hI (la_54 hn) g19 dX11_ahead_130 ?_
      exact rI X hI hr (g_p hm).1 (g_p hm).2 dX11_ahead_131
    · have hm := g_f c18 hm
      by_cases c20 : x2 = (2 : Int32)
      · have hm := g_t c20 hm
        refine lv_tableIn (tgt := 132) hx hb dX11_ahead_82 (by rw [c20]; decide) (by rw [c20]; decide) (off := 50) (by rw [c20]; decide) (by decide) ?_
        refine lv_aload_n hx hb dX11_ahead_132 rfl (lv_at hl 0 rfl) ?_
        refine gR X hI fdX11_41 (la_0 hn) rf11_6 dX11_ahead_133 ?_
        refine gR X hI fdX11_166 (la_53 hn) rf0_5 dX11_ahead_136 ?_
        refine lv_iload_n hx hb dX11_ahead_139 rfl (lv_at hl 3 rfl) ?_
        obtain ⟨g21, hm⟩ := g_no hm
        refine aI X hI (la_59 hn) g21 dX11_ahead_140 ?_
        exact rI X hI hr (g_p hm).1 (g_p hm).2 dX11_ahead_141
      · have hm := g_f c20 hm
        by_cases c22 : x2 = (3 : Int32)
        · have hm := g_t c22 hm
          refine lv_tableIn (tgt := 142) hx hb dX11_ahead_82 (by rw [c22]; decide) (by rw [c22]; decide) (off := 60) (by rw [c22]; decide) (by decide) ?_
          refine lv_aload_n hx hb dX11_ahead_142 rfl (lv_at hl 0 rfl) ?_
          refine gR X hI fdX11_41 (la_0 hn) rf11_6 dX11_ahead_143 ?_
          refine gR X hI fdX11_169 (la_53 hn) rf0_6 dX11_ahead_146 ?_
          refine lv_iload_n hx hb dX11_ahead_149 rfl (lv_at hl 3 rfl) ?_
          obtain ⟨g23, hm⟩ := g_no hm
          refine aI X hI (la_60 hn) g23 dX11_ahead_150 ?_
          exact rI X hI hr (g_p hm).1 (g_p hm).2 dX11_ahead_151
        · have hm := g_f c22 hm
          have ec16 := lv_neT c16 (a := 0) (by decide)
          have ec18 := lv_neT c18 (a := 1) (by decide)
          have ec20 := lv_neT c20 (a := 2) (by decide)
          have ec22 := lv_neT c22 (a := 3) (by decide)
          refine lv_tableOut (tgt := 152) hx hb dX11_ahead_82 (by omega) (by decide) ?_
          refine lv_aload_n hx hb dX11_ahead_152 rfl (lv_at hl 0 rfl) ?_
          refine gR X hI fdX11_41 (la_0 hn) rf11_6 dX11_ahead_153 ?_
          refine gR X hI fdX11_175 (la_53 hn) rf0_8 dX11_ahead_156 ?_
          obtain ⟨q24, h25, hm⟩ := g_b hm
          refine backI X hI (runS X hI (ctX11_sumOf N 62 (ly_self (la_62 hn)) hn _ _ h25 _) msX11_222 ⟨rfl, rfl⟩ ⟨Nat.le_of_ble_eq_true rfl, Nat.le_of_ble_eq_true rfl⟩ rfl hl.1 rfl (Nat.le_of_ble_eq_true rfl) dX11_ahead_159) (fun H locs hI => ?_)
          refine lv_aload_n hx hb dX11_ahead_162 rfl (lv_at hl 0 rfl) ?_
          refine gR X hI fdX11_37 (la_0 hn) rf11_5 dX11_ahead_163 ?_
          refine gR X hI fdX11_175 (la_43 hn) rf0_8 dX11_ahead_166 ?_
          obtain ⟨q26, h27, hm⟩ := g_b hm
          refine backI X hI (runS X hI (ctX11_sumOf N 52 (ly_self (la_52 hn)) hn _ _ h27 _) msX11_222 ⟨rfl, rfl⟩ ⟨Nat.le_of_ble_eq_true rfl, Nat.le_of_ble_eq_true rfl⟩ rfl hl.1 rfl (Nat.le_of_ble_eq_true rfl) dX11_ahead_169) (fun H locs hI => ?_)
          refine lv_isub hx hb dX11_ahead_172 ?_
          exact rI X hI hr (g_p hm).1 (g_p hm).2 dX11_ahead_173
def fX11_ahead_48 (N : Nat) (x1 : Int32) (x2 : Int32) (x3 : Int32) (m : Mem) : Option (Int32 × Mem) := if lay (m.2.2 3) = (0, 6) then ((fX6_hasKnight (m.2.2 3) x3 m).bind (fun q8 => if q8 = 0 then (some ((-1 : Int32), m)) else (fX11_ahead_61 N x1 x2 x3 m))) else none
set_option maxHeartbeats 4000000 in
set_option maxRecDepth 100000 in
theorem tX11_ahead_48 (N : Nat) {l : Launch} {D : va_G} {ca : Nat → ClassId} {ad : Nat → Nat} {p : Program} {e : Env} {s : State} {mm : MethodId} {args : Array Value} {below : List Frame} {meth : Method} {c : Code}  (hn : HNc ca) (X : CX p s mm args meth c cX11_ahead 4 RX11 D ca ad (WA ca ad s.heap.size)) (hr : meth.sig.returnType = (some .int)) (fin : (Int32 × Mem))  : ∀ (x1 : Int32) (x2 : Int32) (x3 : Int32) (m : Mem) (H : Heap) (locs : List Loc) (ls : Array Slot), IW D ca ad (WA ca ad s.heap.size) s m H locs → lv_has ls 4 [(0, .ref (ad 0)), (1, .int x1), (2, .int x2), (3, .int x3)] → fX11_ahead_48 N x1 x2 x3 m = some fin → W p l e rmX11_ahead s mm args below meth c H locs 0 0 (MQ below (QI D ca ad s.heap.size fin.1 fin.2) args s 0 0 (WA ca ad s.heap.size)) (F0 mm 48 ls []) := by
  have hx := X.1
  have hb := X.2.1
  intro x1 x2 x3 m H locs ls hI hl hm
  have hm : (if lay (m.2.2 3) = (0, 6) then ((fX6_hasKnight (m.2.2 3) x3 m).bind (fun q8 => if q8 = 0 then (some ((-1 : Int32), m)) else (fX11_ahead_61 N x1 x2 x3 m))) else none) = some fin := hm
  refine lv_aload_n hx hb dX11_ahead_48 rfl (lv_at hl 0 rfl) ?_
  obtain ⟨g7, hm⟩ := g_is hm
  refine gR X hI fdX11_27 (la_0 hn) rf11_3 dX11_ahead_49 ?_
  refine lv_iload_n hx hb dX11_ahead_52 rfl (lv_at hl 3 rfl) ?_
  obtain ⟨q8, h9, hm⟩ := g_b hm
  refine backI X hI (runV X hI (ctX6_hasKnight (m.2.2 3) x3 (lyO hn g7) hn _ _ h9 _) mdX11_154 (lyO hn g7) rfl ⟨rfl, rfl⟩ ⟨Nat.le_of_ble_eq_true rfl, Nat.le_of_ble_eq_true rfl⟩ rfl hl.1 rfl (Nat.le_of_ble_eq_true rfl) dX11_ahead_53) (fun H locs hI => ?_)
  refine lv_if_ne (tgt := 61) hx hb dX11_ahead_56 (by decide) (fun c10 => ?_) (fun c10 => ?_)
  · have hm := g_f c10 hm
    exact tX11_ahead_61 N hn X hr fin  x1 x2 x3 m H locs ls hI (lv_sub hl [0, 1, 2, 3] rfl) hm
  · have hm := g_t c10 hm
    refine lv_iconst (v := (-1 : Int32)) hx hb dX11_ahead_59 (by decide) ?_
    exact rI X hI hr (g_p hm).1 (g_p hm).2 dX11_ahead_60
def fX11_ahead_38 (N : Nat) (x1 : Int32) (x2 : Int32) (x3 : Int32) (m : Mem) : Option (Int32 × Mem) := if x2 = (2 : Int32) then (fX11_ahead_48 N x1 x2 x3 m) else (if x2 = (3 : Int32) then (fX11_ahead_48 N x1 x2 x3 m) else (fX11_ahead_61 N x1 x2 x3 m))
set_option maxHeartbeats 4000000 in
set_option maxRecDepth 100000 in
theorem tX11_ahead_38 (N : Nat) {l : Launch} {D : va_G} {ca : Nat → ClassId} {ad : Nat → Nat} {p : Program} {e : Env} {s : State} {mm : MethodId} {args : Array Value} {below : List Frame} {meth : Method} {c : Code}  (hn : HNc ca) (X : CX p s mm args meth c cX11_ahead 4 RX11 D ca ad (WA ca ad s.heap.size)) (hr : meth.sig.returnType = (some .int)) (fin : (Int32 × Mem))  : ∀ (x1 : Int32) (x2 : Int32) (x3 : Int32) (m : Mem) (H : Heap) (locs : List Loc) (ls : Array Slot), IW D ca ad (WA ca ad s.heap.size) s m H locs → lv_has ls 4 [(0, .ref (ad 0)), (1, .int x1), (2, .int x2), (3, .int x3)] → fX11_ahead_38 N x1 x2 x3 m = some fin → W p l e rmX11_ahead s mm args below meth c H locs 0 0 (MQ below (QI D ca ad s.heap.size fin.1 fin.2) args s 0 0 (WA ca ad s.heap.size)) (F0 mm 38 ls []) := by
  have hx := X.1
  have hb := X.2.1
  intro x1 x2 x3 m H locs ls hI hl hm
  have hm : (if x2 = (2 : Int32) then (fX11_ahead_48 N x1 x2 x3 m) else (if x2 = (3 : Int32) then (fX11_ahead_48 N x1 x2 x3 m) else (fX11_ahead_61 N x1 x2 x3 m))) = some fin := hm
  refine lv_iload_n hx hb dX11_ahead_38 rfl (lv_at hl 2 rfl) ?_
  refine lv_iconst (v := (2 : Int32)) hx hb dX11_ahead_39 (by decide) ?_
  refine lv_icmp_eq (tgt := 48) hx hb dX11_ahead_40 (by decide) (fun c6 => ?_) (fun c6 => ?_)
  · have hm := g_t c6 hm
    exact tX11_ahead_48 N hn X hr fin  x1 x2 x3 m H locs ls hI (lv_sub hl [0, 1, 2, 3] rfl) hm
  · have hm := g_f c6 hm
    refine lv_iload_n hx hb dX11_ahead_43 rfl (lv_at hl 2 rfl) ?_
    refine lv_iconst (v := (3 : Int32)) hx hb dX11_ahead_44 (by decide) ?_
    refine lv_icmp_ne (tgt := 61) hx hb dX11_ahead_45 (by decide) (fun c28 => ?_) (fun c28 => ?_)
    · have hm := g_f c28 hm
      exact tX11_ahead_61 N hn X hr fin  x1 x2 x3 m H locs ls hI (lv_sub hl [0, 1, 2, 3] rfl) hm
    · have hm := g_t c28 hm
      exact tX11_ahead_48 N hn X hr fin  x1 x2 x3 m H locs ls hI (lv_sub hl [0, 1, 2, 3] rfl) hm
def fX11_ahead (N : Nat) (x1 : Int32) (x2 : Int32) (x3 : Int32) (m : Mem) : Option (Int32 × Mem) := if x1 < 0 then (some ((-1 : Int32), m)) else (if (200 : Int32) < x1 then (some ((-1 : Int32), m)) else (if x2 < 0 then (some ((-1 : Int32), m)) else (if x2 ≤ (4 : Int32) then (if (1 : Int32) < x2 then (fX11_ahead_38 N x1 x2 x3 m) else (if lay (m.2.2 3) = (0, 6) then ((fX6_hasTub (m.2.2 3) x3 m).bind (fun q30 => if q30 = 0 then (some ((-1 : Int32), m)) else (fX11_ahead_38 N x1 x2 x3 m))) else none)) else (some ((-1 : Int32), m)))))
set_option maxHeartbeats 4000000 in
set_option maxRecDepth 100000 in
theorem ctX11_ahead {l : Launch} {D : va_G} {ca : Nat → ClassId} {ad : Nat → Nat} (N : Nat) (x1 : Int32) (x2 : Int32) (x3 : Int32)  (hn : HNc ca) (m : Mem) (fin : (Int32 × Mem)) (hm : fX11_ahead N x1 x2 x3 m = some fin) : CI l D ca ad yX11_ahead cwX11_ahead rmX11_ahead [.ref (ad 0), .int x1, .int x2, .int x3] m fin.1 fin.2 := by
  refine start (by decide) (Nat.le_of_ble_eq_true rfl) ?_
  intro p e s mm args below meth c H locs ls X hI hr hl
  have X : CX p s mm args meth c cX11_ahead 4 RX11 D ca ad (WA ca ad s.heap.size) := X
  have hx := X.1
  have hb := X.2.1
  have hl : lv_has ls 4 [(0, .ref (ad 0)), (1, .int x1), (2, .int x2), (3, .int x3)] := hl
  have hm : (if x1 < 0 then (some ((-1 : Int32), m)) else (if (200 : Int32) < x1 then (some ((-1 : Int32), m)) else (if x2 < 0 then (some ((-1 : Int32), m)) else (if x2 ≤ (4 : Int32) then (if (1 : Int32) < x2 then (fX11_ahead_38 N x1 x2 x3 m) else (if lay (m.2.2 3) = (0, 6) then ((fX6_hasTub (m.2.2 3) x3 m).bind (fun q30 => if q30 = 0 then (some ((-1 : Int32), m)) else (fX11_ahead_38 N x1 x2 x3 m))) else none)) else (some ((-1 : Int32), m)))))) = some fin := hm
  refine lv_iload_n hx hb dX11_ahead_0 rfl (lv_at hl 1 rfl) ?_
  refine lv_if_lt (tgt := 20) hx hb dX11_ahead_1 (by decide) (fun c1 => ?_) (fun c1 => ?_)
  · have hm := g_t c1 hm
    refine lv_iconst (v := (-1 : Int32)) hx hb dX11_ahead_20 (by decide) ?_
    exact rI X hI hr (g_p hm).1 (g_p hm).2 dX11_ahead_21
  · have hm := g_f c1 hm
    refine lv_iload_n hx hb dX11_ahead_4 rfl (lv_at hl 1 rfl) ?_
    refine lv_sipush (v := (200 : Int32)) hx hb dX11_ahead_5 (by decide) ?_
    refine lv_icmp_gt (tgt := 20) hx hb dX11_ahead_8 (by decide) (fun c2 => ?_) (fun c2 => ?_)
    · have hm := g_t c2 hm
      refine lv_iconst (v := (-1 : Int32)) hx hb dX11_ahead_20 (by decide) ?_
      exact rI X hI hr (g_p hm).1 (g_p hm).2 dX11_ahead_21
    · have hm := g_f c2 hm
      refine lv_iload_n hx hb dX11_ahead_11 rfl (lv_at hl 2 rfl) ?_
      refine lv_if_lt (tgt := 20) hx hb dX11_ahead_12 (by decide) (fun c3 => ?_) (fun c3 => ?_)
      · have hm := g_t c3 hm
        refine lv_iconst (v := (-1 : Int32)) hx hb dX11_ahead_20 (by decide) ?_
        exact rI X hI hr (g_p hm).1 (g_p hm).2 dX11_ahead_21
      · have hm := g_f c3 hm
        refine lv_iload_n hx hb dX11_ahead_15 rfl (lv_at hl 2 rfl) ?_
        refine lv_iconst (v := (4 : Int32)) hx hb dX11_ahead_16 (by decide) ?_
        refine lv_icmp_le (tgt := 22) hx hb dX11_ahead_17 (by decide) (fun c4 => ?_) (fun c4 => ?_)
        · have hm := g_t c4 hm
          refine lv_iload_n hx hb dX11_ahead_22 rfl (lv_at hl 2 rfl) ?_
          refine lv_iconst (v := (1 : Int32)) hx hb dX11_ahead_23 (by decide) ?_
          refine lv_icmp_gt (tgt := 38) hx hb dX11_ahead_24 (by decide) (fun c5 => ?_) (fun c5 => ?_)
          · have hm := g_t c5 hm
            exact tX11_ahead_38 N hn X hr fin  x1 x2 x3 m H locs ls hI (lv_sub hl [0, 1, 2, 3] rfl) hm
          · have hm := g_f c5 hm
            refine lv_aload_n hx hb dX11_ahead_27 rfl (lv_at hl 0 rfl) ?_
            obtain ⟨g29, hm⟩ := g_is hm
            refine gR X hI fdX11_27 (la_0 hn) rf11_3 dX11_ahead_28 ?_
            refine lv_iload_n hx hb dX11_ahead_31 rfl (lv_at hl 3 rfl) ?_
            obtain ⟨q30, h31, hm⟩ := g_b hm
            refine backI X hI (runV X hI (ctX6_hasTub (m.2.2 3) x3 (lyO hn g29) hn _ _ h31 _) mdX11_128 (lyO hn g29) rfl ⟨rfl, rfl⟩ ⟨Nat.le_of_ble_eq_true rfl, Nat.le_of_ble_eq_true rfl⟩ rfl hl.1 rfl (Nat.le_of_ble_eq_true rfl) dX11_ahead_32) (fun H locs hI => ?_)
            refine lv_if_eq (tgt := 59) hx hb dX11_ahead_35 (by decide) (fun c32 => ?_) (fun c32 => ?_)
            · have hm := g_t c32 hm
              refine lv_iconst (v := (-1 : Int32)) hx hb dX11_ahead_59 (by decide) ?_
              exact rI X hI hr (g_p hm).1 (g_p hm).2 dX11_ahead_60
            · have hm := g_f c32 hm
              exact tX11_ahead_38 N hn X hr fin  x1 x2 x3 m H locs ls hI (lv_sub hl [0, 1, 2, 3] rfl) hm
        · have hm := g_f c4 hm
          refine lv_iconst (v := (-1 : Int32)) hx hb dX11_ahead_20 (by decide) ?_
          exact rI X hI hr (g_p hm).1 (g_p hm).2 dX11_ahead_21
