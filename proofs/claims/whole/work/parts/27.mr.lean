abbrev rmX12_borne : Room := { frames := 8, cells := 0, slots := 0, locals := 193 }
abbrev cwX12_borne : Cond := .code yX12_borne cX12_borne 2 (some .int)
theorem cmX12_borne : cwX12_borne ∈ BIG := (tb8 (List.mem_of_getElem? (i := 150) rfl) rfl)
def fX12_borne (N : Nat) (x1 : Int32) (m : Mem) : Option (Int32 × Mem) := (fX12_isKnight x1 (mI m 99 0 (0 : Int32))).bind (fun q1 => if q1 = 0 then (some ((-1 : Int32), (mI m 99 0 (0 : Int32)))) else ((fX12_borneBy N x1 (mI m 99 0 (0 : Int32))).bind (fun q4 => some (q4.1, q4.2))))
set_option maxHeartbeats 4000000 in
set_option maxRecDepth 100000 in
theorem ctX12_borne {l : Launch} {D : va_G} {ca : Nat → ClassId} {ad : Nat → Nat} (N : Nat) (x1 : Int32)  (hn : HNr ca) (m : Mem) (fin : (Int32 × Mem)) (hm : fX12_borne N x1 m = some fin) : CI l D ca ad yX12_borne cwX12_borne rmX12_borne [.ref (ad 99), .int x1] m fin.1 fin.2 := by
  refine start (by decide) (Nat.le_of_ble_eq_true rfl) ?_
  intro p e s mm args below meth c H locs ls X hI hr hl
  have X : CX p s mm args meth c cX12_borne 2 RX12 D ca ad (WA ca ad s.heap.size) := X
  have hx := X.1
  have hb := X.2.1
  have hl : lv_has ls 2 [(0, .ref (ad 99)), (1, .int x1)] := hl
  have hm : ((fX12_isKnight x1 (mI m 99 0 (0 : Int32))).bind (fun q1 => if q1 = 0 then (some ((-1 : Int32), (mI m 99 0 (0 : Int32)))) else ((fX12_borneBy N x1 (mI m 99 0 (0 : Int32))).bind (fun q4 => some (q4.1, q4.2))))) = some fin := hm
  refine lv_aload_n hx hb dX12_borne_0 rfl (lv_at hl 0 rfl) ?_
  refine lv_iconst (v := (0 : Int32)) hx hb dX12_borne_1 (by decide) ?_
  refine pI X hI fpX12_154 (la_99 hn) dX12_borne_2 (fun H locs hI => ?_)
  refine lv_aload_n hx hb dX12_borne_5 rfl (lv_at hl 0 rfl) ?_
  refine lv_iload_n hx hb dX12_borne_6 rfl (lv_at hl 1 rfl) ?_
  obtain ⟨q1, h2, hm⟩ := g_b hm
  refine backI X hI (runV X hI (ctX12_isKnight x1  hn _ _ h2 _) mdX12_419 (la_99 hn) rfl ⟨rfl, rfl⟩ ⟨Nat.le_of_ble_eq_true rfl, Nat.le_of_ble_eq_true rfl⟩ rfl hl.1 rfl (Nat.le_of_ble_eq_true rfl) dX12_borne_7) (fun H locs hI => ?_)
  refine lv_if_eq (tgt := 21) hx hb dX12_borne_10 (by decide) (fun c3 => ?_) (fun c3 => ?_)
  · have hm := g_t c3 hm
    refine lv_iconst (v := (-1 : Int32)) hx hb dX12_borne_21 (by decide) ?_
    exact rI X hI hr (g_p hm).1 (g_p hm).2 dX12_borne_22
  · have hm := g_f c3 hm
    refine lv_aload_n hx hb dX12_borne_13 rfl (lv_at hl 0 rfl) ?_
    refine lv_iload_n hx hb dX12_borne_14 rfl (lv_at hl 1 rfl) ?_
    obtain ⟨q4, h5, hm⟩ := g_b hm
    refine backI X hI (runV X hI (ctX12_borneBy N x1  hn _ _ h5 _) mdX12_494 (la_99 hn) rfl ⟨rfl, rfl⟩ ⟨Nat.le_of_ble_eq_true rfl, Nat.le_of_ble_eq_true rfl⟩ rfl hl.1 rfl (Nat.le_of_ble_eq_true rfl) dX12_borne_15) (fun H locs hI => ?_)
    refine lv_goto (tgt := 22) hx hb dX12_borne_18 (by decide) ?_
    exact rI X hI hr (g_p hm).1 (g_p hm).2 dX12_borne_22
abbrev rmX12_ask : Room := { frames := 8, cells := 0, slots := 0, locals := 193 }
abbrev cwX12_ask : Cond := .code yX12_ask cX12_ask 8 (some .int)
theorem cmX12_ask : cwX12_ask ∈ BIG := (tb8 (List.mem_of_getElem? (i := 174) rfl) rfl)
def fX12_ask_197 (N : Nat) (k151 : Int32 → Int32 → Int32 → Int32 → Int32 → Mem → Option (Int32 × Mem)) (x2 : Int32) (x3 : Int32) (x6 : Int32) (x7 : Int32) (m : Mem) : Option (Int32 × Mem) := k151 x2 x3 x6 x7 (x6 + (1 : Int32)) m
set_option maxHeartbeats 4000000 in
set_option maxRecDepth 100000 in
theorem tX12_ask_197 (N : Nat) {l : Launch} {D : va_G} {ca : Nat → ClassId} {ad : Nat → Nat} {p : Program} {e : Env} {s : State} {mm : MethodId} {args : Array Value} {below : List Frame} {meth : Method} {c : Code} {k151 : Int32 → Int32 → Int32 → Int32 → Int32 → Mem → Option (Int32 × Mem)} (hn : HNr ca) (X : CX p s mm args meth c cX12_ask 8 RX12 D ca ad (WA ca ad s.heap.size)) (hr : meth.sig.returnType = (some .int)) (fin : (Int32 × Mem)) (hk151 : ∀ (x2 : Int32) (x3 : Int32) (x4 : Int32) (x5 : Int32) (x6 : Int32) (m : Mem) (H : Heap) (locs : List Loc) (ls : Array Slot), IW D ca ad (WA ca ad s.heap.size) s m H locs → lv_has ls 8 [(0, .ref (ad 99)), (2, .int x2), (3, .int x3), (4, .int x4), (5, .int x5), (6, .int x6)] → k151 x2 x3 x4 x5 x6 m = some fin → W p l e rmX12_ask s mm args below meth c H locs 0 0 (MQ below (QI D ca ad s.heap.size fin.1 fin.2) args s 0 0 (WA ca ad s.heap.size)) (F0 mm 151 ls [])) : ∀ (x2 : Int32) (x3 : Int32) (x6 : Int32) (x7 : Int32) (m : Mem) (H : Heap) (locs : List Loc) (ls : Array Slot), IW D ca ad (WA ca ad s.heap.size) s m H locs → lv_has ls 8 [(0, .ref (ad 99)), (2, .int x2), (3, .int x3), (6, .int x6), (7, .int x7)] → fX12_ask_197 N k151 x2 x3 x6 x7 m = some fin → W p l e rmX12_ask s mm args below meth c H locs 0 0 (MQ below (QI D ca ad s.heap.size fin.1 fin.2) args s 0 0 (WA ca ad s.heap.size)) (F0 mm 197 ls []) := by
  have hx := X.1
  have hb := X.2.1
  intro x2 x3 x6 x7 m H locs ls hI hl hm
  have hm : (k151 x2 x3 x6 x7 (x6 + (1 : Int32)) m) = some fin := hm
  refine lv_iload hx hb dX12_ask_197 (lv_at hl 3 rfl) ?_
  refine lv_istore (lv' := [(4, .int x6), (0, .ref (ad 99)), (2, .int x2), (3, .int x3), (6, .int x6), (7, .int x7)]) hx hb dX12_ask_199 hl (by decide) rfl (fun ls hl => ?_)
  refine lv_iload hx hb dX12_ask_201 (lv_at hl 5 rfl) ?_
  refine lv_istore (lv' := [(5, .int x7), (4, .int x6), (0, .ref (ad 99)), (2, .int x2), (3, .int x3), (6, .int x6), (7, .int x7)]) hx hb dX12_ask_203 hl (by decide) rfl (fun ls hl => ?_)
  refine lv_iinc (v := (x6 + (1 : Int32))) (lv' := [(6, .int (x6 + (1 : Int32))), (5, .int x7), (4, .int x6), (0, .ref (ad 99)), (2, .int x2), (3, .int x3), (7, .int x7)]) hx hb dX12_ask_205 hl (k := 5) rfl rfl (by decide) rfl (fun ls hl => ?_)
  refine lv_goto (tgt := 151) hx hb dX12_ask_208 (by decide) ?_
  exact hk151 x2 x3 x6 x7 (x6 + (1 : Int32)) m H locs ls hI (lv_sub hl [3, 4, 5, 2, 1, 0] rfl) hm
def fX12_ask_151 (N : Nat) : Nat → Int32 → Int32 → Int32 → Int32 → Int32 → Mem → Option (Int32 × Mem)
  | 0, _, _, _, _, _, _ => none
  | n + 1, x2, x3, x4, x5, x6, m => if (60 : Int32) < x6 then (if x2 = 0 then (some (x4, m)) else (some (x5, m))) else (if x6 < 0 ∨ 61 ≤ x6.toNatClampNeg then none else ((fX12_bitsOf N x3 m).bind (fun q11 => if x6 < 0 ∨ 61 ≤ x6.toNatClampNeg then none else (if x4 = 0 then (fX12_ask_197 N (fun x2 x3 x4 x5 x6 m => fX12_ask_151 N n x2 x3 x4 x5 x6 m) x2 x3 x6 (imax (m.1 142 x6.toNatClampNeg) (q11 - (m.1 142 x6.toNatClampNeg))) m) else (if (imax (m.1 142 x6.toNatClampNeg) (q11 - (m.1 142 x6.toNatClampNeg))) < x5 then (fX12_ask_197 N (fun x2 x3 x4 x5 x6 m => fX12_ask_151 N n x2 x3 x4 x5 x6 m) x2 x3 x6 (imax (m.1 142 x6.toNatClampNeg) (q11 - (m.1 142 x6.toNatClampNeg))) m) else (fX12_ask_151 N n x2 x3 x4 x5 (x6 + (1 : Int32)) m))))))
set_option maxHeartbeats 4000000 in
set_option maxRecDepth 100000 in
theorem tX12_ask_151 (N : Nat) {l : Launch} {D : va_G} {ca : Nat → ClassId} {ad : Nat → Nat} {p : Program} {e : Env} {s : State} {mm : MethodId} {args : Array Value} {below : List Frame} {meth : Method} {c : Code}  (hn : HNr ca) (X : CX p s mm args meth c cX12_ask 8 RX12 D ca ad (WA ca ad s.heap.size)) (hr : meth.sig.returnType = (some .int)) (fin : (Int32 × Mem))  : ∀ (n : Nat) (x2 : Int32) (x3 : Int32) (x4 : Int32) (x5 : Int32) (x6 : Int32) (m : Mem) (H : Heap) (locs : List Loc) (ls : Array Slot), IW D ca ad (WA ca ad s.heap.size) s m H locs → lv_has ls 8 [(0, .ref (ad 99)), (2, .int x2), (3, .int x3), (4, .int x4), (5, .int x5), (6, .int x6)] → fX12_ask_151 N n x2 x3 x4 x5 x6 m = some fin → W p l e rmX12_ask s mm args below meth c H locs 0 0 (MQ below (QI D ca ad s.heap.size fin.1 fin.2) args s 0 0 (WA ca ad s.heap.size)) (F0 mm 151 ls []) := by
  have hx := X.1
  have hb := X.2.1
  intro n
  induction n with
  | zero => intro x2 x3 x4 x5 x6 m H locs ls hI hl hm
            exact absurd hm (by intro q; cases q)
  | succ n ih =>
    intro x2 x3 x4 x5 x6 m H locs ls hI hl hm
    have hm : (if (60 : Int32) < x6 then (if x2 = 0 then (some (x4, m)) else (some (x5, m))) else (if x6 < 0 ∨ 61 ≤ x6.toNatClampNeg then none else ((fX12_bitsOf N x3 m).bind (fun q11 => if x6 < 0 ∨ 61 ≤ x6.toNatClampNeg then none else (if x4 = 0 then (fX12_ask_197 N (fun x2 x3 x4 x5 x6 m => fX12_ask_151 N n x2 x3 x4 x5 x6 m) x2 x3 x6 (imax (m.1 142 x6.toNatClampNeg) (q11 - (m.1 142 x6.toNatClampNeg))) m) else (if (imax (m.1 142 x6.toNatClampNeg) (q11 - (m.1 142 x6.toNatClampNeg))) < x5 then (fX12_ask_197 N (fun x2 x3 x4 x5 x6 m => fX12_ask_151 N n x2 x3 x4 x5 x6 m) x2 x3 x6 (imax (m.1 142 x6.toNatClampNeg) (q11 - (m.1 142 x6.toNatClampNeg))) m) else (fX12_ask_151 N n x2 x3 x4 x5 (x6 + (1 : Int32)) m))))))) = some fin := hm
    refine lv_iload hx hb dX12_ask_151 (lv_at hl 5 rfl) ?_
    refine lv_bipush (v := (60 : Int32)) hx hb dX12_ask_153 (by decide) ?_
    refine lv_icmp_gt (tgt := 211) hx hb dX12_ask_155 (by decide) (fun c8 => ?_) (fun c8 => ?_)
    · have hm := g_t c8 hm
      refine lv_iload_n hx hb dX12_ask_211 rfl (lv_at hl 1 rfl) ?_
      refine lv_if_ne (tgt := 220) hx hb dX12_ask_212 (by decide) (fun c9 => ?_) (fun c9 => ?_)
      · have hm := g_f c9 hm
        refine lv_iload hx hb dX12_ask_220 (lv_at hl 4 rfl) ?_
        exact rI X hI hr (g_p hm).1 (g_p hm).2 dX12_ask_222
      · have hm := g_t c9 hm
        refine lv_iload hx hb dX12_ask_215 (lv_at hl 3 rfl) ?_
        refine lv_goto (tgt := 222) hx hb dX12_ask_217 (by decide) ?_
        exact rI X hI hr (g_p hm).1 (g_p hm).2 dX12_ask_222
    · have hm := g_f c8 hm
      refine lv_aload_n hx hb dX12_ask_158 rfl (lv_at hl 0 rfl) ?_
      refine gR X hI fdX12_148 (la_99 hn) rf12_66 dX12_ask_159 ?_
      refine lv_iload hx hb dX12_ask_162 (lv_at hl 5 rfl) ?_
      obtain ⟨g10, hm⟩ := g_no hm
      refine aI X hI (la_142 hn) g10 dX12_ask_164 ?_
      refine lv_iload_n hx hb dX12_ask_165 rfl (lv_at hl 2 rfl) ?_
      obtain ⟨q11, h12, hm⟩ := g_b hm
      refine backI X hI (runS X hI (ctX12_bitsOf N x3  hn _ _ h12 _) msX12_497 ⟨rfl, rfl⟩ ⟨Nat.le_of_ble_eq_true rfl, Nat.le_of_ble_eq_true rfl⟩ rfl hl.1 rfl (Nat.le_of_ble_eq_true rfl) dX12_ask_166) (fun H locs hI => ?_)
      refine lv_aload_n hx hb dX12_ask_169 rfl (lv_at hl 0 rfl) ?_
      refine gR X hI fdX12_148 (la_99 hn) rf12_66 dX12_ask_170 ?_
      refine lv_iload hx hb dX12_ask_173 (lv_at hl 5 rfl) ?_
      obtain ⟨g13, hm⟩ := g_no hm
      refine aI X hI (la_142 hn) g13 dX12_ask_175 ?_
      refine lv_isub hx hb dX12_ask_176 ?_
      refine kMax X mpX12_370 hl.1 (Nat.le_of_ble_eq_true rfl) (Nat.le_of_ble_eq_true rfl) dX12_ask_177 ?_
      refine lv_istore (lv' := [(7, .int (imax (m.1 142 x6.toNatClampNeg) (q11 - (m.1 142 x6.toNatClampNeg)))), (0, .ref (ad 99)), (2, .int x2), (3, .int x3), (4, .int x4), (5, .int x5), (6, .int x6)]) hx hb dX12_ask_180 hl (by decide) rfl (fun ls hl => ?_)
      refine lv_iload hx hb dX12_ask_182 (lv_at hl 4 rfl) ?_
      refine lv_if_eq (tgt := 197) hx hb dX12_ask_184 (by decide) (fun c14 => ?_) (fun c14 => ?_)
      · have hm := g_t c14 hm
        exact tX12_ask_197 N hn X hr fin ih x2 x3 x6 (imax (m.1 142 x6.toNatClampNeg) (q11 - (m.1 142 x6.toNatClampNeg))) m H locs ls hI (lv_sub hl [1, 2, 3, 6, 0] rfl) hm
      · have hm := g_f c14 hm
        refine lv_iload hx hb dX12_ask_187 (lv_at hl 0 rfl) ?_
        refine lv_iload hx hb dX12_ask_189 (lv_at hl 5 rfl) ?_
        refine lv_icmp_lt (tgt := 197) hx hb dX12_ask_191 (by decide) (fun c15 => ?_) (fun c15 => ?_)
        · have hm := g_t c15 hm
          exact tX12_ask_197 N hn X hr fin ih x2 x3 x6 (imax (m.1 142 x6.toNatClampNeg) (q11 - (m.1 142 x6.toNatClampNeg))) m H locs ls hI (lv_sub hl [1, 2, 3, 6, 0] rfl) hm
        · have hm := g_f c15 hm
          refine lv_goto (tgt := 205) hx hb dX12_ask_194 (by decide) ?_
          refine lv_iinc (v := (x6 + (1 : Int32))) (lv' := [(6, .int (x6 + (1 : Int32))), (7, .int (imax (m.1 142 x6.toNatClampNeg) (q11 - (m.1 142 x6.toNatClampNeg)))), (0, .ref (ad 99)), (2, .int x2), (3, .int x3), (4, .int x4), (5, .int x5)]) hx hb dX12_ask_205 hl (k := 6) rfl rfl (by decide) rfl (fun ls hl => ?_)
          refine lv_goto (tgt := 151) hx hb dX12_ask_208 (by decide) ?_
          exact ih x2 x3 x4 x5 (x6 + (1 : Int32)) m H locs ls hI (lv_sub hl [2, 3, 4, 5, 6, 0] rfl) hm
def fX12_ask_142 (N : Nat) (x2 : Int32) (x3 : Int32) (m : Mem) : Option (Int32 × Mem) := fX12_ask_151 N N x2 x3 (0 : Int32) (0 : Int32) (1 : Int32) m
set_option maxHeartbeats 4000000 in
set_option maxRecDepth 100000 in
theorem tX12_ask_142 (N : Nat) {l : Launch} {D : va_G} {ca : Nat → ClassId} {ad : Nat → Nat} {p : Program} {e : Env} {s : State} {mm : MethodId} {args : Array Value} {below : List Frame} {meth : Method} {c : Code}  (hn : HNr ca) (X : CX p s mm args meth c cX12_ask 8 RX12 D ca ad (WA ca ad s.heap.size)) (hr : meth.sig.returnType = (some .int)) (fin : (Int32 × Mem))  : ∀ (x2 : Int32) (x3 : Int32) (m : Mem) (H : Heap) (locs : List Loc) (ls : Array Slot), IW D ca ad (WA ca ad s.heap.size) s m H locs → lv_has ls 8 [(0, .ref (ad 99)), (2, .int x2), (3, .int x3)] → fX12_ask_142 N x2 x3 m = some fin → W p l e rmX12_ask s mm args below meth c H locs 0 0 (MQ below (QI D ca ad s.heap.size fin.1 fin.2) args s 0 0 (WA ca ad s.heap.size)) (F0 mm 142 ls []) := by
  have hx := X.1
  have hb := X.2.1
  intro x2 x3 m H locs ls hI hl hm
  have hm : (fX12_ask_151 N N x2 x3 (0 : Int32) (0 : Int32) (1 : Int32) m) = some fin := hm
  refine lv_iconst (v := (0 : Int32)) hx hb dX12_ask_142 (by decide) ?_
  refine lv_istore (lv' := [(4, .int (0 : Int32)), (0, .ref (ad 99)), (2, .int x2), (3, .int x3)]) hx hb dX12_ask_143 hl (by decide) rfl (fun ls hl => ?_)
  refine lv_iconst (v := (0 : Int32)) hx hb dX12_ask_145 (by decide) ?_
  refine lv_istore (lv' := [(5, .int (0 : Int32)), (4, .int (0 : Int32)), (0, .ref (ad 99)), (2, .int x2), (3, .int x3)]) hx hb dX12_ask_146 hl (by decide) rfl (fun ls hl => ?_)
  refine lv_iconst (v := (1 : Int32)) hx hb dX12_ask_148 (by decide) ?_
  refine lv_istore (lv' := [(6, .int (1 : Int32)), (5, .int (0 : Int32)), (4, .int (0 : Int32)), (0, .ref (ad 99)), (2, .int x2), (3, .int x3)]) hx hb dX12_ask_149 hl (by decide) rfl (fun ls hl => ?_)
  exact tX12_ask_151 N hn X hr fin  N x2 x3 (0 : Int32) (0 : Int32) (1 : Int32) m H locs ls hI (lv_sub hl [3, 4, 5, 2, 1, 0] rfl) hm
def fX12_ask_136 (N : Nat) (k57 : Int32 → Int32 → Int32 → Int32 → Mem → Option (Int32 × Mem)) (x1 : Int32) (x2 : Int32) (x3 : Int32) (x4 : Int32) (m : Mem) : Option (Int32 × Mem) := k57 x1 x2 x3 (x4 + (1 : Int32)) m
set_option maxHeartbeats 4000000 in
set_option maxRecDepth 100000 in
theorem tX12_ask_136 (N : Nat) {l : Launch} {D : va_G} {ca : Nat → ClassId} {ad : Nat → Nat} {p : Program} {e : Env} {s : State} {mm : MethodId} {args : Array Value} {below : List Frame} {meth : Method} {c : Code} {k57 : Int32 → Int32 → Int32 → Int32 → Mem → Option (Int32 × Mem)} (hn : HNr ca) (X : CX p s mm args meth c cX12_ask 8 RX12 D ca ad (WA ca ad s.heap.size)) (hr : meth.sig.returnType = (some .int)) (fin : (Int32 × Mem)) (hk57 : ∀ (x1 : Int32) (x2 : Int32) (x3 : Int32) (x4 : Int32) (m : Mem) (H : Heap) (locs : List Loc) (ls : Array Slot), IW D ca ad (WA ca ad s.heap.size) s m H locs → lv_has ls 8 [(0, .ref (ad 99)), (1, .int x1), (2, .int x2), (3, .int x3), (4, .int x4)] → k57 x1 x2 x3 x4 m = some fin → W p l e rmX12_ask s mm args below meth c H locs 0 0 (MQ below (QI D ca ad s.heap.size fin.1 fin.2) args s 0 0 (WA ca ad s.heap.size)) (F0 mm 57 ls [])) : ∀ (x1 : Int32) (x2 : Int32) (x3 : Int32) (x4 : Int32) (m : Mem) (H : Heap) (locs : List Loc) (ls : Array Slot), IW D ca ad (WA ca ad s.heap.size) s m H locs → lv_has ls 8 [(0, .ref (ad 99)), (1, .int x1), (2, .int x2), (3, .int x3), (4, .int x4)] → fX12_ask_136 N k57 x1 x2 x3 x4 m = some fin → W p l e rmX12_ask s mm args below meth c H locs 0 0 (MQ below (QI D ca ad s.heap.size fin.1 fin.2) args s 0 0 (WA ca ad s.heap.size)) (F0 mm 136 ls []) := by
  have hx := X.1
  have hb := X.2.1
  intro x1 x2 x3 x4 m H locs ls hI hl hm
  have hm : (k57 x1 x2 x3 (x4 + (1 : Int32)) m) = some fin := hm
  refine lv_iinc (v := (x4 + (1 : Int32))) (lv' := [(4, .int (x4 + (1 : Int32))), (0, .ref (ad 99)), (1, .int x1), (2, .int x2), (3, .int x3)]) hx hb dX12_ask_136 hl (k := 4) rfl rfl (by decide) rfl (fun ls hl => ?_)
  refine lv_goto (tgt := 57) hx hb dX12_ask_139 (by decide) ?_
  exact hk57 x1 x2 x3 (x4 + (1 : Int32)) m H locs ls hI (lv_sub hl [1, 2, 3, 4, 0] rfl) hm
def fX12_ask_128 (N : Nat) (k89 : Int32 → Int32 → Int32 → Int32 → Int32 → Mem → Option (Int32 × Mem)) (x1 : Int32) (x2 : Int32) (x3 : Int32) (x4 : Int32) (x5 : Int32) (y0 : Int32) (y1 : Int32) (y2 : Int32) (m : Mem) : Option (Int32 × Mem) := if y2 < 0 ∨ 61 ≤ y2.toNatClampNeg then none else (k89 x1 x2 x3 x4 (x5 + (1 : Int32)) (mI m 142 y2.toNatClampNeg (y1 + y0)))
set_option maxHeartbeats 4000000 in
set_option maxRecDepth 100000 in
theorem tX12_ask_128 (N : Nat) {l : Launch} {D : va_G} {ca : Nat → ClassId} {ad : Nat → Nat} {p : Program} {e : Env} {s : State} {mm : MethodId} {args : Array Value} {below : List Frame} {meth : Method} {c : Code} {k89 : Int32 → Int32 → Int32 → Int32 → Int32 → Mem → Option (Int32 × Mem)} (hn : HNr ca) (X : CX p s mm args meth c cX12_ask 8 RX12 D ca ad (WA ca ad s.heap.size)) (hr : meth.sig.returnType = (some .int)) (fin : (Int32 × Mem)) (hk89 : ∀ (x1 : Int32) (x2 : Int32) (x3 : Int32) (x4 : Int32) (x5 : Int32) (m : Mem) (H : Heap) (locs : List Loc) (ls : Array Slot), IW D ca ad (WA ca ad s.heap.size) s m H locs → lv_has ls 8 [(0, .ref (ad 99)), (1, .int x1), (2, .int x2), (3, .int x3), (4, .int x4), (5, .int x5)] → k89 x1 x2 x3 x4 x5 m = some fin → W p l e rmX12_ask s mm args below meth c H locs 0 0 (MQ below (QI D ca ad s.heap.size fin.1 fin.2) args s 0 0 (WA ca ad s.heap.size)) (F0 mm 89 ls [])) : ∀ (x1 : Int32) (x2 : Int32) (x3 : Int32) (x4 : Int32) (x5 : Int32) (y0 : Int32) (y1 : Int32) (y2 : Int32) (m : Mem) (H : Heap) (locs : List Loc) (ls : Array Slot), IW D ca ad (WA ca ad s.heap.size) s m H locs → lv_has ls 8 [(0, .ref (ad 99)), (1, .int x1), (2, .int x2), (3, .int x3), (4, .int x4), (5, .int x5)] → fX12_ask_128 N k89 x1 x2 x3 x4 x5 y0 y1 y2 m = some fin → W p l e rmX12_ask s mm args below meth c H locs 0 0 (MQ below (QI D ca ad s.heap.size fin.1 fin.2) args s 0 0 (WA ca ad s.heap.size)) (F0 mm 128 ls [.int y0, .int y1, .int y2, .ref (ad 142)]) := by
  have hx := X.1
  have hb := X.2.1
  intro x1 x2 x3 x4 x5 y0 y1 y2 m H locs ls hI hl hm
  have hm : (if y2 < 0 ∨ 61 ≤ y2.toNatClampNeg then none else (k89 x1 x2 x3 x4 (x5 + (1 : Int32)) (mI m 142 y2.toNatClampNeg (y1 + y0)))) = some fin := hm
  refine lv_iadd hx hb dX12_ask_128 ?_
  obtain ⟨g26, hm⟩ := g_no hm
  refine sI X hI (la_142 hn) g26 dX12_ask_129 (fun H locs hI => ?_)
  refine lv_iinc (v := (x5 + (1 : Int32))) (lv' := [(5, .int (x5 + (1 : Int32))), (0, .ref (ad 99)), (1, .int x1), (2, .int x2), (3, .int x3), (4, .int x4)]) hx hb dX12_ask_130 hl (k := 5) rfl rfl (by decide) rfl (fun ls hl => ?_)
  refine lv_goto (tgt := 89) hx hb dX12_ask_133 (by decide) ?_
  exact hk89 x1 x2 x3 x4 (x5 + (1 : Int32)) (mI m 142 y2.toNatClampNeg (y1 + y0)) H locs ls hI (lv_sub hl [1, 2, 3, 4, 5, 0] rfl) hm
def fX12_ask_89 (N : Nat) (k136 : Int32 → Int32 → Int32 → Int32 → Mem → Option (Int32 × Mem)) : Nat → Int32 → Int32 → Int32 → Int32 → Int32 → Mem → Option (Int32 × Mem)
  | 0, _, _, _, _, _, _ => none
  | n + 1, x1, x2, x3, x4, x5, m => if (60 : Int32) < x5 then (k136 x1 x2 x3 x4 m) else ((fX12_passes N (1 : Int32) (0 : Int32) m).bind (fun q21 => if x5 < 0 ∨ 61 ≤ x5.toNatClampNeg then none else (if ((6 : Int32) + x1) < 0 ∨ 138 ≤ ((6 : Int32) + x1).toNatClampNeg then none else (if (q21.1 129 ((6 : Int32) + x1).toNatClampNeg) = (-1 : Int32) then (fX12_ask_128 N (fun x1 x2 x3 x4 x5 m => fX12_ask_89 N k136 n x1 x2 x3 x4 x5 m) x1 x2 x3 x4 x5 (0 : Int32) (q21.1 142 x5.toNatClampNeg) x5 q21) else (fX12_ask_128 N (fun x1 x2 x3 x4 x5 m => fX12_ask_89 N k136 n x1 x2 x3 x4 x5 m) x1 x2 x3 x4 x5 (1 : Int32) (q21.1 142 x5.toNatClampNeg) x5 q21)))))
set_option maxHeartbeats 4000000 in
set_option maxRecDepth 100000 in
theorem tX12_ask_89 (N : Nat) {l : Launch} {D : va_G} {ca : Nat → ClassId} {ad : Nat → Nat} {p : Program} {e : Env} {s : State} {mm : MethodId} {args : Array Value} {below : List Frame} {meth : Method} {c : Code} {k136 : Int32 → Int32 → Int32 → Int32 → Mem → Option (Int32 × Mem)} (hn : HNr ca) (X : CX p s mm args meth c cX12_ask 8 RX12 D ca ad (WA ca ad s.heap.size)) (hr : meth.sig.returnType = (some .int)) (fin : (Int32 × Mem)) (hk136 : ∀ (x1 : Int32) (x2 : Int32) (x3 : Int32) (x4 : Int32) (m : Mem) (H : Heap) (locs : List Loc) (ls : Array Slot), IW D ca ad (WA ca ad s.heap.size) s m H locs → lv_has ls 8 [(0, .ref (ad 99)), (1, .int x1), (2, .int x2), (3, .int x3), (4, .int x4)] → k136 x1 x2 x3 x4 m = some fin → W p l e rmX12_ask s mm args below meth c H locs 0 0 (MQ below (QI D ca ad s.heap.size fin.1 fin.2) args s 0 0 (WA ca ad s.heap.size)) (F0 mm 136 ls [])) : ∀ (n : Nat) (x1 : Int32) (x2 : Int32) (x3 : Int32) (x4 : Int32) (x5 : Int32) (m : Mem) (H : Heap) (locs : List Loc) (ls : Array Slot), IW D ca ad (WA ca ad s.heap.size) s m H locs → lv_has ls 8 [(0, .ref (ad 99)), (1, .int x1), (2, .int x2), (3, .int x3), (4, .int x4), (5, .int x5)] → fX12_ask_89 N k136 n x1 x2 x3 x4 x5 m = some fin → W p l e rmX12_ask s mm args below meth c H locs 0 0 (MQ below (QI D ca ad s.heap.size fin.1 fin.2) args s 0 0 (WA ca ad s.heap.size)) (F0 mm 89 ls []) := by
  have hx := X.1
  have hb := X.2.1
  intro n
  induction n with
  | zero => intro x1 x2 x3 x4 x5 m H locs ls hI hl hm
            exact absurd hm (by intro q; cases q)
  | succ n ih =>
    intro x1 x2 x3 x4 x5 m H locs ls hI hl hm
    have hm : (if (60 : Int32) < x5 then (k136 x1 x2 x3 x4 m) else ((fX12_passes N (1 : Int32) (0 : Int32) m).bind (fun q21 => if x5 < 0 ∨ 61 ≤ x5.toNatClampNeg then none else (if ((6 : Int32) + x1) < 0 ∨ 138 ≤ ((6 : Int32) + x1).toNatClampNeg then none else (if (q21.1 129 ((6 : Int32) + x1).toNatClampNeg) = (-1 : Int32) then (fX12_ask_128 N (fun x1 x2 x3 x4 x5 m => fX12_ask_89 N k136 n x1 x2 x3 x4 x5 m) x1 x2 x3 x4 x5 (0 : Int32) (q21.1 142 x5.toNatClampNeg) x5 q21) else (fX12_ask_128 N (fun x1 x2 x3 x4 x5 m => fX12_ask_89 N k136 n x1 x2 x3 x4 x5 m) x1 x2 x3 x4 x5 (1 : Int32) (q21.1 142 x5.toNatClampNeg) x5 q21)))))) = some fin := hm
    refine lv_iload hx hb dX12_ask_89 (lv_at hl 5 rfl) ?_
    refine lv_bipush (v := (60 : Int32)) hx hb dX12_ask_91 (by decide) ?_
    refine lv_icmp_gt (tgt := 136) hx hb dX12_ask_93 (by decide) (fun c20 => ?_) (fun c20 => ?_)
    · have hm := g_t c20 hm
      exact hk136 x1 x2 x3 x4 m H locs ls hI (lv_sub hl [0, 1, 2, 3, 4] rfl) hm
    · have hm := g_f c20 hm
      refine lv_aload_n hx hb dX12_ask_96 rfl (lv_at hl 0 rfl) ?_
      refine lv_iconst (v := (1 : Int32)) hx hb dX12_ask_97 (by decide) ?_
      refine lv_iconst (v := (0 : Int32)) hx hb dX12_ask_98 (by decide) ?_
      obtain ⟨q21, h22, hm⟩ := g_b hm
      refine backV X hI (runV X hI (ctX12_passes N (1 : Int32) (0 : Int32)  hn _ _ h22 _) mdX12_409 (la_99 hn) rfl ⟨rfl, rfl⟩ ⟨Nat.le_of_ble_eq_true rfl, Nat.le_of_ble_eq_true rfl⟩ rfl hl.1 rfl (Nat.le_of_ble_eq_true rfl) dX12_ask_99) (fun H locs hI => ?_)
      refine lv_aload_n hx hb dX12_ask_102 rfl (lv_at hl 0 rfl) ?_
      refine gR X hI fdX12_148 (la_99 hn) rf12_66 dX12_ask_103 ?_
      refine lv_iload hx hb dX12_ask_106 (lv_at hl 5 rfl) ?_
      refine lv_dup2_11 hx hb dX12_ask_108 rfl rfl ?_
      obtain ⟨g23, hm⟩ := g_no hm
      refine aI X hI (la_142 hn) g23 dX12_ask_109 ?_
      refine lv_aload_n hx hb dX12_ask_110 rfl (lv_at hl 0 rfl) ?_
      refine gR X hI fdX12_102 (la_99 hn) rf12_45 dX12_ask_111 ?_
      refine lv_bipush (v := (6 : Int32)) hx hb dX12_ask_114 (by decide) ?_
      refine lv_iload_n hx hb dX12_ask_116 rfl (lv_at hl 1 rfl) ?_
      refine lv_iadd hx hb dX12_ask_117 ?_
      obtain ⟨g24, hm⟩ := g_no hm
      refine aI X hI (la_129 hn) g24 dX12_ask_118 ?_
      refine lv_iconst (v := (-1 : Int32)) hx hb dX12_ask_119 (by decide) ?_
      refine lv_icmp_eq (tgt := 127) hx hb dX12_ask_120 (by decide) (fun c25 => ?_) (fun c25 => ?_)
      · have hm := g_t c25 hm
        refine lv_iconst (v := (0 : Int32)) hx hb dX12_ask_127 (by decide) ?_
        exact tX12_ask_128 N hn X hr fin ih x1 x2 x3 x4 x5 (0 : Int32) (q21.1 142 x5.toNatClampNeg) x5 q21 H locs ls hI (lv_sub hl [0, 1, 2, 3, 4, 5] rfl) hm
      · have hm := g_f c25 hm
        refine lv_iconst (v := (1 : Int32)) hx hb dX12_ask_123 (by decide) ?_
        refine lv_goto (tgt := 128) hx hb dX12_ask_124 (by decide) ?_
        exact tX12_ask_128 N hn X hr fin ih x1 x2 x3 x4 x5 (1 : Int32) (q21.1 142 x5.toNatClampNeg) x5 q21 H locs ls hI (lv_sub hl [0, 1, 2, 3, 4, 5] rfl) hm
def fX12_ask_57 (N : Nat) (k142 : Int32 → Int32 → Mem → Option (Int32 × Mem)) : Nat → Int32 → Int32 → Int32 → Int32 → Mem → Option (Int32 × Mem)
  | 0, _, _, _, _, _ => none
  | n + 1, x1, x2, x3, x4, m => if (10 : Int32) ≤ x4 then (k142 x2 x3 m) else (if ((x3 >>> (x4 &&& 31)) &&& (1 : Int32)) = 0 then (fX12_ask_136 N (fun x1 x2 x3 x4 m => fX12_ask_57 N k142 n x1 x2 x3 x4 m) x1 x2 x3 x4 m) else ((fX12_startsWith N x1 ((10 : Int32) * x4) m).bind (fun q18 => fX12_ask_89 N (fX12_ask_136 N (fun x1 x2 x3 x4 m => fX12_ask_57 N k142 n x1 x2 x3 x4 m)) N x1 x2 x3 x4 (1 : Int32) q18)))
set_option maxHeartbeats 4000000 in
set_option maxRecDepth 100000 in
theorem tX12_ask_57 (N : Nat) {l : Launch} {D : va_G} {ca : Nat → ClassId} {ad : Nat → Nat} {p : Program} {e : Env} {s : State} {mm : MethodId} {args : Array Value} {below : List Frame} {meth : Method} {c : Code} {k142 : Int32 → Int32 → Mem → Option (Int32 × Mem)} (hn : HNr ca) (X : CX p s mm args meth c cX12_ask 8 RX12 D ca ad (WA ca ad s.heap.size)) (hr : meth.sig.returnType = (some .int)) (fin : (Int32 × Mem)) (hk142 : ∀ (x2 : Int32) (x3 : Int32) (m : Mem) (H : Heap) (locs : List Loc) (ls : Array Slot), IW D ca ad (WA ca ad s.heap.size) s m H locs → lv_has ls 8 [(0, .ref (ad 99)), (2, .int x2), (3, .int x3)] → k142 x2 x3 m = some fin → W p l e rmX12_ask s mm args below meth c H locs 0 0 (MQ below (QI D ca ad s.heap.size fin.1 fin.2) args s 0 0 (WA ca ad s.heap.size)) (F0 mm 142 ls [])) : ∀ (n : Nat) (x1 : Int32) (x2 : Int32) (x3 : Int32) (x4 : Int32) (m : Mem) (H : Heap) (locs : List Loc) (ls : Array Slot), IW D ca ad (WA ca ad s.heap.size) s m H locs → lv_has ls 8 [(0, .ref (ad 99)), (1, .int x1), (2, .int x2), (3, .int x3), (4, .int x4)] → fX12_ask_57 N k142 n x1 x2 x3 x4 m = some fin → W p l e rmX12_ask s mm args below meth c H locs 0 0 (MQ below (QI D ca ad s.heap.size fin.1 fin.2) args s 0 0 (WA ca ad s.heap.size)) (F0 mm 57 ls []) := by
  have hx := X.1
  have hb := X.2.1
  intro n
  induction n with
  | zero => intro x1 x2 x3 x4 m H locs ls hI hl hm
            exact absurd hm (by intro q; cases q)
  | succ n ih =>
    intro x1 x2 x3 x4 m H locs ls hI hl hm
    have hm : (if (10 : Int32) ≤ x4 then (k142 x2 x3 m) else (if ((x3 >>> (x4 &&& 31)) &&& (1 : Int32)) = 0 then (fX12_ask_136 N (fun x1 x2 x3 x4 m => fX12_ask_57 N k142 n x1 x2 x3 x4 m) x1 x2 x3 x4 m) else ((fX12_startsWith N x1 ((10 : Int32) * x4) m).bind (fun q18 => fX12_ask_89 N (fX12_ask_136 N (fun x1 x2 x3 x4 m => fX12_ask_57 N k142 n x1 x2 x3 x4 m)) N x1 x2 x3 x4 (1 : Int32) q18)))) = some fin := hm
    refine lv_iload hx hb dX12_ask_57 (lv_at hl 4 rfl) ?_
    refine lv_bipush (v := (10 : Int32)) hx hb dX12_ask_59 (by decide) ?_
    refine lv_icmp_ge (tgt := 142) hx hb dX12_ask_61 (by decide) (fun c16 => ?_) (fun c16 => ?_)
    · have hm := g_t c16 hm
      exact hk142 x2 x3 m H locs ls hI (lv_sub hl [0, 2, 3] rfl) hm
    · have hm := g_f c16 hm
      refine lv_iload_n hx hb dX12_ask_64 rfl (lv_at hl 3 rfl) ?_
      refine lv_iload hx hb dX12_ask_65 (lv_at hl 4 rfl) ?_
      refine lv_ishr hx hb dX12_ask_67 ?_
      refine lv_iconst (v := (1 : Int32)) hx hb dX12_ask_68 (by decide) ?_
      refine lv_iand hx hb dX12_ask_69 ?_
      refine lv_if_ne (tgt := 76) hx hb dX12_ask_70 (by decide) (fun c17 => ?_) (fun c17 => ?_)
      · have hm := g_f c17 hm
        refine lv_aload_n hx hb dX12_ask_76 rfl (lv_at hl 0 rfl) ?_
        refine lv_iload_n hx hb dX12_ask_77 rfl (lv_at hl 1 rfl) ?_
        refine lv_bipush (v := (10 : Int32)) hx hb dX12_ask_78 (by decide) ?_
        refine lv_iload hx hb dX12_ask_80 (lv_at hl 4 rfl) ?_
        refine lv_imul hx hb dX12_ask_82 ?_
        obtain ⟨q18, h19, hm⟩ := g_b hm
        refine backV X hI (runV X hI (ctX12_startsWith N x1 ((10 : Int32) * x4)  hn _ _ h19 _) mdX12_485 (la_99 hn) rfl ⟨rfl, rfl⟩ ⟨Nat.le_of_ble_eq_true rfl, Nat.le_of_ble_eq_true rfl⟩ rfl hl.1 rfl (Nat.le_of_ble_eq_true rfl) dX12_ask_83) (fun H locs hI => ?_)
        refine lv_iconst (v := (1 : Int32)) hx hb dX12_ask_86 (by decide) ?_
        refine lv_istore (lv' := [(5, .int (1 : Int32)), (0, .ref (ad 99)), (1, .int x1), (2, .int x2), (3, .int x3), (4, .int x4)]) hx hb dX12_ask_87 hl (by decide) rfl (fun ls hl => ?_)
        exact tX12_ask_89 N hn X hr fin (tX12_ask_136 N hn X hr fin ih) N x1 x2 x3 x4 (1 : Int32) q18 H locs ls hI (lv_sub hl [1, 2, 3, 4, 5, 0] rfl) hm
      · have hm := g_t c17 hm
        refine lv_goto (tgt := 136) hx hb dX12_ask_73 (by decide) ?_
        exact tX12_ask_136 N hn X hr fin ih x1 x2 x3 x4 m H locs ls hI (lv_sub hl [0, 1, 2, 3, 4] rfl) hm
def fX12_ask_54 (N : Nat) (x1 : Int32) (x2 : Int32) (x3 : Int32) (m : Mem) : Option (Int32 × Mem) := fX12_ask_57 N (fX12_ask_142 N) N x1 x2 x3 (0 : Int32) m
set_option maxHeartbeats 4000000 in
set_option maxRecDepth 100000 in
theorem tX12_ask_54 (N : Nat) {l : Launch} {D : va_G} {ca : Nat → ClassId} {ad : Nat → Nat} {p : Program} {e : Env} {s : State} {mm : MethodId} {args : Array Value} {below : List Frame} {meth : Method} {c : Code}  (hn : HNr ca) (X : CX p s mm args meth c cX12_ask 8 RX12 D ca ad (WA ca ad s.heap.size)) (hr : meth.sig.returnType = (some .int)) (fin : (Int32 × Mem))  : ∀ (x1 : Int32) (x2 : Int32) (x3 : Int32) (m : Mem) (H : Heap) (locs : List Loc) (ls : Array Slot), IW D ca ad (WA ca ad s.heap.size) s m H locs → lv_has ls 8 [(0, .ref (ad 99)), (1, .int x1), (2, .int x2), (3, .int x3)] → fX12_ask_54 N x1 x2 x3 m = some fin → W p l e rmX12_ask s mm args below meth c H locs 0 0 (MQ below (QI D ca ad s.heap.size fin.1 fin.2) args s 0 0 (WA ca ad s.heap.size)) (F0 mm 54 ls []) := by
  have hx := X.1
  have hb := X.2.1
  intro x1 x2 x3 m H locs ls hI hl hm
  have hm : (fX12_ask_57 N (fX12_ask_142 N) N x1 x2 x3 (0 : Int32) m) = some fin := hm
  refine lv_iconst (v := (0 : Int32)) hx hb dX12_ask_54 (by decide) ?_
  refine lv_istore (lv' := [(4, .int (0 : Int32)), (0, .ref (ad 99)), (1, .int x1), (2, .int x2), (3, .int x3)]) hx hb dX12_ask_55 hl (by decide) rfl (fun ls hl => ?_)
  exact tX12_ask_57 N hn X hr fin (tX12_ask_142 N hn X hr fin ) N x1 x2 x3 (0 : Int32) m H locs ls hI (lv_sub hl [1, 2, 3, 4, 0] rfl) hm
def fX12_ask_33 (N : Nat) (k54 : Int32 → Int32 → Int32 → Mem → Option (Int32 × Mem)) : Nat → Int32 → Int32 → Int32 → Int32 → Mem → Option (Int32 × Mem)
  | 0, _, _, _, _, _ => none
  | n + 1, x1, x2, x3, x4, m => if (60 : Int32) < x4 then (k54 x1 x2 x3 m) else (if x4 < 0 ∨ 61 ≤ x4.toNatClampNeg then none else (fX12_ask_33 N k54 n x1 x2 x3 (x4 + (1 : Int32)) (mI m 142 x4.toNatClampNeg (0 : Int32))))
set_option maxHeartbeats 4000000 in
set_option maxRecDepth 100000 in
theorem tX12_ask_33 (N : Nat) {l : Launch} {D : va_G} {ca : Nat → ClassId} {ad : Nat → Nat} {p : Program} {e : Env} {s : State} {mm : MethodId} {args : Array Value} {below : List Frame} {meth : Method} {c : Code} {k54 : Int32 → Int32 → Int32 → Mem → Option (Int32 × Mem)} (hn : HNr ca) (X : CX p s mm args meth c cX12_ask 8 RX12 D ca ad (WA ca ad s.heap.size)) (hr : meth.sig.returnType = (some .int)) (fin : (Int32 × Mem)) (hk54 : ∀ (x1 : Int32) (x2 : Int32) (x3 : Int32) (m : Mem) (H : Heap) (locs : List Loc) (ls : Array Slot), IW D ca ad (WA ca ad s.heap.size) s m H locs → lv_has ls 8 [(0, .ref (ad 99)), (1, .int x1), (2, .int x2), (3, .int x3)] → k54 x1 x2 x3 m = some fin → W p l e rmX12_ask s mm args below meth c H locs 0 0 (MQ below (QI D ca ad s.heap.size fin.1 fin.2) args s 0 0 (WA ca ad s.heap.size)) (F0 mm 54 ls [])) : ∀ (n : Nat) (x1 : Int32) (x2 : Int32) (x3 : Int32) (x4 : Int32) (m : Mem) (H : Heap) (locs : List Loc) (ls : Array Slot), IW D ca ad (WA ca ad s.heap.size) s m H locs → lv_has ls 8 [(0, .ref (ad 99)), (1, .int x1), (2, .int x2), (3, .int x3), (4, .int x4)] → fX12_ask_33 N k54 n x1 x2 x3 x4 m = some fin → W p l e rmX12_ask s mm args below meth c H locs 0 0 (MQ below (QI D ca ad s.heap.size fin.1 fin.2) args s 0 0 (WA ca ad s.heap.size)) (F0 mm 33 ls []) := by
  have hx := X.1
  have hb := X.2.1
  intro n
  induction n with
  | zero => intro x1 x2 x3 x4 m H locs ls hI hl hm
            exact absurd hm (by intro q; cases q)
  | succ n ih =>
    intro x1 x2 x3 x4 m H locs ls hI hl hm
    have hm : (if (60 : Int32) < x4 then (k54 x1 x2 x3 m) else (if x4 < 0 ∨ 61 ≤ x4.toNatClampNeg then none else (fX12_ask_33 N k54 n x1 x2 x3 (x4 + (1 : Int32)) (mI m 142 x4.toNatClampNeg (0 : Int32))))) = some fin := hm
    refine lv_iload hx hb dX12_ask_33 (lv_at hl 4 rfl) ?_
    refine lv_bipush (v := (60 : Int32)) hx hb dX12_ask_35 (by decide) ?_
    refine lv_icmp_gt (tgt := 54) hx hb dX12_ask_37 (by decide) (fun c27 => ?_) (fun c27 => ?_)
    · have hm := g_t c27 hm
      exact hk54 x1 x2 x3 m H locs ls hI (lv_sub hl [0, 1, 2, 3] rfl) hm
    · have hm := g_f c27 hm
      refine lv_aload_n hx hb dX12_ask_40 rfl (lv_at hl 0 rfl) ?_
      refine gR X hI fdX12_148 (la_99 hn) rf12_66 dX12_ask_41 ?_
      refine lv_iload hx hb dX12_ask_44 (lv_at hl 4 rfl) ?_
      refine lv_iconst (v := (0 : Int32)) hx hb dX12_ask_46 (by decide) ?_
      obtain ⟨g28, hm⟩ := g_no hm
      refine sI X hI (la_142 hn) g28 dX12_ask_47 (fun H locs hI => ?_)
      refine lv_iinc (v := (x4 + (1 : Int32))) (lv' := [(4, .int (x4 + (1 : Int32))), (0, .ref (ad 99)), (1, .int x1), (2, .int x2), (3, .int x3)]) hx hb dX12_ask_48 hl (k := 4) rfl rfl (by decide) rfl (fun ls hl => ?_)
      refine lv_goto (tgt := 33) hx hb dX12_ask_51 (by decide) ?_
      exact ih x1 x2 x3 (x4 + (1 : Int32)) (mI m 142 x4.toNatClampNeg (0 : Int32)) H locs ls hI (lv_sub hl [1, 2, 3, 4, 0] rfl) hm
def fX12_ask (N : Nat) (x1 : Int32) (x2 : Int32) (m : Mem) : Option (Int32 × Mem) := (fX12_isKnight x1 (mI m 99 0 (0 : Int32))).bind (fun q1 => if q1 = 0 then (some ((-1 : Int32), (mI m 99 0 (0 : Int32)))) else (if x2 < 0 then (some ((-1 : Int32), (mI m 99 0 (0 : Int32)))) else (if x2 ≤ (1 : Int32) then ((fX12_borneBy N x1 (mI m 99 0 (0 : Int32))).bind (fun q6 => fX12_ask_33 N (fX12_ask_54 N) N x1 x2 q6.1 (1 : Int32) q6.2)) else (some ((-1 : Int32), (mI m 99 0 (0 : Int32)))))))
set_option maxHeartbeats 4000000 in
set_option maxRecDepth 100000 in
theorem ctX12_ask {l : Launch} {D : va_G} {ca : Nat → ClassId} {ad : Nat → Nat} (N : Nat) (x1 : Int32) (x2 : Int32)  (hn : HNr ca) (m : Mem) (fin : (Int32 × Mem)) (hm : fX12_ask N x1 x2 m = some fin) : CI l D ca ad yX12_ask cwX12_ask rmX12_ask [.ref (ad 99), .int x1, .int x2] m fin.1 fin.2 := by
  refine start (by decide) (Nat.le_of_ble_eq_true rfl) ?_
  intro p e s mm args below meth c H locs ls X hI hr hl
  have X : CX p s mm args meth c cX12_ask 8 RX12 D ca ad (WA ca ad s.heap.size) := X
  have hx := X.1
  have hb := X.2.1
  have hl : lv_has ls 8 [(0, .ref (ad 99)), (1, .int x1), (2, .int x2)] := hl
  have hm : ((fX12_isKnight x1 (mI m 99 0 (0 : Int32))).bind (fun q1 => if q1 = 0 then (some ((-1 : Int32), (mI m 99 0 (0 : Int32)))) else (if x2 < 0 then (some ((-1 : Int32), (mI m 99 0 (0 : Int32)))) else (if x2 ≤ (1 : Int32) then ((fX12_borneBy N x1 (mI m 99 0 (0 : Int32))).bind (fun q6 => fX12_ask_33 N (fX12_ask_54 N) N x1 x2 q6.1 (1 : Int32) q6.2)) else (some ((-1 : Int32), (mI m 99 0 (0 : Int32)))))))) = some fin := hm
  refine lv_aload_n hx hb dX12_ask_0 rfl (lv_at hl 0 rfl) ?_
  refine lv_iconst (v := (0 : Int32)) hx hb dX12_ask_1 (by decide) ?_
  refine pI X hI fpX12_154 (la_99 hn) dX12_ask_2 (fun H locs hI => ?_)
  refine lv_aload_n hx hb dX12_ask_5 rfl (lv_at hl 0 rfl) ?_
  refine lv_iload_n hx hb dX12_ask_6 rfl (lv_at hl 1 rfl) ?_
  obtain ⟨q1, h2, hm⟩ := g_b hm
  refine backI X hI (runV X hI (ctX12_isKnight x1  hn _ _ h2 _) mdX12_419 (la_99 hn) rfl ⟨rfl, rfl⟩ ⟨Nat.le_of_ble_eq_true rfl, Nat.le_of_ble_eq_true rfl⟩ rfl hl.1 rfl (Nat.le_of_ble_eq_true rfl) dX12_ask_7) (fun H locs hI => ?_)
  refine lv_if_eq (tgt := 22) hx hb dX12_ask_10 (by decide) (fun c3 => ?_) (fun c3 => ?_)
  · have hm := g_t c3 hm
    refine lv_iconst (v := (-1 : Int32)) hx hb dX12_ask_22 (by decide) ?_
    exact rI X hI hr (g_p hm).1 (g_p hm).2 dX12_ask_23
  · have hm := g_f c3 hm
    refine lv_iload_n hx hb dX12_ask_13 rfl (lv_at hl 2 rfl) ?_
    refine lv_if_lt (tgt := 22) hx hb dX12_ask_14 (by decide) (fun c4 => ?_) (fun c4 => ?_)
    · have hm := g_t c4 hm
      refine lv_iconst (v := (-1 : Int32)) hx hb dX12_ask_22 (by decide) ?_
      exact rI X hI hr (g_p hm).1 (g_p hm).2 dX12_ask_23
    · have hm := g_f c4 hm
      refine lv_iload_n hx hb dX12_ask_17 rfl (lv_at hl 2 rfl) ?_
      refine lv_iconst (v := (1 : Int32)) hx hb dX12_ask_18 (by decide) ?_
      refine lv_icmp_le (tgt := 24) hx hb dX12_ask_19 (by decide) (fun c5 => ?_) (fun c5 => ?_)
      · have hm := g_t c5 hm
        refine lv_aload_n hx hb dX12_ask_24 rfl (lv_at hl 0 rfl) ?_
        refine lv_iload_n hx hb dX12_ask_25 rfl (lv_at hl 1 rfl) ?_
        obtain ⟨q6, h7, hm⟩ := g_b hm
        refine backI X hI (runV X hI (ctX12_borneBy N x1  hn _ _ h7 _) mdX12_494 (la_99 hn) rfl ⟨rfl, rfl⟩ ⟨Nat.le_of_ble_eq_true rfl, Nat.le_of_ble_eq_true rfl⟩ rfl hl.1 rfl (Nat.le_of_ble_eq_true rfl) dX12_ask_26) (fun H locs hI => ?_)
        refine lv_istore_n (lv' := [(3, .int q6.1), (0, .ref (ad 99)), (1, .int x1), (2, .int x2)]) hx hb dX12_ask_29 rfl hl (by decide) rfl (fun ls hl => ?_)
        refine lv_iconst (v := (1 : Int32)) hx hb dX12_ask_30 (by decide) ?_
        refine lv_istore (lv' := [(4, .int (1 : Int32)), (3, .int q6.1), (0, .ref (ad 99)), (1, .int x1), (2, .int x2)]) hx hb dX12_ask_31 hl (by decide) rfl (fun ls hl => ?_)
        exact tX12_ask_33 N hn X hr fin (tX12_ask_54 N hn X hr fin ) N x1 x2 q6.1 (1 : Int32) q6.2 H locs ls hI (lv_sub hl [2, 3, 4, 1, 0] rfl) hm
      · have hm := g_f c5 hm
        refine lv_iconst (v := (-1 : Int32)) hx hb dX12_ask_22 (by decide) ?_
        exact rI X hI hr (g_p hm).1 (g_p hm).2 dX12_ask_23
abbrev rmX12_chance : Room := { frames := 6, cells := 0, slots := 0, locals := 145 }
abbrev cwX12_chance : Cond := .code yX12_chance cX12_chance 8 (some .int)
theorem cmX12_chance : cwX12_chance ∈ BIG := (tb8 (List.mem_of_getElem? (i := 181) rfl) rfl)
def fX12_chance_81 (N : Nat) (k39 : Int32 → Int32 → Int32 → Int32 → Int32 → Mem → Option (Int32 × Mem)) (x2 : Int32) (x3 : Int32) (x5 : Int32) (x6 : Int32) (m : Mem) : Option (Int32 × Mem) := if ((6 : Int32) + x3) < 0 ∨ 138 ≤ ((6 : Int32) + x3).toNatClampNeg then none else (if (m.1 129 ((6 : Int32) + x3).toNatClampNeg) = (-1 : Int32) then (k39 x2 x3 (m.1 124 1) (x5 + (0 : Int32)) (x6 + (1 : Int32)) m) else (k39 x2 x3 (m.1 124 1) (x5 + (1 : Int32)) (x6 + (1 : Int32)) m))
set_option maxHeartbeats 4000000 in
set_option maxRecDepth 100000 in
theorem tX12_chance_81 (N : Nat) {l : Launch} {D : va_G} {ca : Nat → ClassId} {ad : Nat → Nat} {p : Program} {e : Env} {s : State} {mm : MethodId} {args : Array Value} {below : List Frame} {meth : Method} {c : Code} {k39 : Int32 → Int32 → Int32 → Int32 → Int32 → Mem → Option (Int32 × Mem)} (hn : HNr ca) (X : CX p s mm args meth c cX12_chance 8 RX12 D ca ad (WA ca ad s.heap.size)) (hr : meth.sig.returnType = (some .int)) (fin : (Int32 × Mem)) (hk39 : ∀ (x2 : Int32) (x3 : Int32) (x4 : Int32) (x5 : Int32) (x6 : Int32) (m : Mem) (H : Heap) (locs : List Loc) (ls : Array Slot), IW D ca ad (WA ca ad s.heap.size) s m H locs → lv_has ls 8 [(0, .ref (ad 99)), (2, .int x2), (3, .int x3), (4, .int x4), (5, .int x5), (6, .int x6)] → k39 x2 x3 x4 x5 x6 m = some fin → W p l e rmX12_chance s mm args below meth c H locs 0 0 (MQ below (QI D ca ad s.heap.size fin.1 fin.2) args s 0 0 (WA ca ad s.heap.size)) (F0 mm 39 ls [])) : ∀ (x2 : Int32) (x3 : Int32) (x5 : Int32) (x6 : Int32) (m : Mem) (H : Heap) (locs : List Loc) (ls : Array Slot), IW D ca ad (WA ca ad s.heap.size) s m H locs → lv_has ls 8 [(0, .ref (ad 99)), (2, .int x2), (3, .int x3), (5, .int x5), (6, .int x6)] → fX12_chance_81 N k39 x2 x3 x5 x6 m = some fin → W p l e rmX12_chance s mm args below meth c H locs 0 0 (MQ below (QI D ca ad s.heap.size fin.1 fin.2) args s 0 0 (WA ca ad s.heap.size)) (F0 mm 81 ls []) := by
  have hx := X.1
  have hb := X.2.1
  intro x2 x3 x5 x6 m H locs ls hI hl hm
  have hm : (if ((6 : Int32) + x3) < 0 ∨ 138 ≤ ((6 : Int32) + x3).toNatClampNeg then none else (if (m.1 129 ((6 : Int32) + x3).toNatClampNeg) = (-1 : Int32) then (k39 x2 x3 (m.1 124 1) (x5 + (0 : Int32)) (x6 + (1 : Int32)) m) else (k39 x2 x3 (m.1 124 1) (x5 + (1 : Int32)) (x6 + (1 : Int32)) m))) = some fin := hm
  refine lv_aload_n hx hb dX12_chance_81 rfl (lv_at hl 0 rfl) ?_
  refine gR X hI fdX12_87 (la_99 hn) rf12_40 dX12_chance_82 ?_
  refine lv_iconst (v := (1 : Int32)) hx hb dX12_chance_85 (by decide) ?_
  refine aIc (j := 1) X hI (la_124 hn) (by decide) (by decide) dX12_chance_86 ?_
  refine lv_istore (lv' := [(4, .int (m.1 124 1)), (0, .ref (ad 99)), (2, .int x2), (3, .int x3), (5, .int x5), (6, .int x6)]) hx hb dX12_chance_87 hl (by decide) rfl (fun ls hl => ?_)
  refine lv_iload hx hb dX12_chance_89 (lv_at hl 4 rfl) ?_
  refine lv_aload_n hx hb dX12_chance_91 rfl (lv_at hl 1 rfl) ?_
  refine gR X hI fdX12_102 (la_99 hn) rf12_45 dX12_chance_92 ?_
  refine lv_bipush (v := (6 : Int32)) hx hb dX12_chance_95 (by decide) ?_
  refine lv_iload_n hx hb dX12_chance_97 rfl (lv_at hl 3 rfl) ?_
  refine lv_iadd hx hb dX12_chance_98 ?_
  obtain ⟨g10, hm⟩ := g_no hm
  refine aI X hI (la_129 hn) g10 dX12_chance_99 ?_
  refine lv_iconst (v := (-1 : Int32)) hx hb dX12_chance_100 (by decide) ?_
  refine lv_icmp_eq (tgt := 108) hx hb dX12_chance_101 (by decide) (fun c11 => ?_) (fun c11 => ?_)
  · have hm := g_t c11 hm
    refine lv_iconst (v := (0 : Int32)) hx hb dX12_chance_108 (by decide) ?_
    refine lv_iadd hx hb dX12_chance_109 ?_
    refine lv_istore (lv' := [(5, .int (x5 + (0 : Int32))), (4, .int (m.1 124 1)), (0, .ref (ad 99)), (2, .int x2), (3, .int x3), (6, .int x6)]) hx hb dX12_chance_110 hl (by decide) rfl (fun ls hl => ?_)
    refine lv_iinc (v := (x6 + (1 : Int32))) (lv' := [(6, .int (x6 + (1 : Int32))), (5, .int (x5 + (0 : Int32))), (4, .int (m.1 124 1)), (0, .ref (ad 99)), (2, .int x2), (3, .int x3)]) hx hb dX12_chance_112 hl (k := 5) rfl rfl (by decide) rfl (fun ls hl => ?_)
    refine lv_goto (tgt := 39) hx hb dX12_chance_115 (by decide) ?_
    exact hk39 x2 x3 (m.1 124 1) (x5 + (0 : Int32)) (x6 + (1 : Int32)) m H locs ls hI (lv_sub hl [3, 4, 5, 2, 1, 0] rfl) hm
  · have hm := g_f c11 hm
    refine lv_iconst (v := (1 : Int32)) hx hb dX12_chance_104 (by decide) ?_
    refine lv_goto (tgt := 109) hx hb dX12_chance_105 (by decide) ?_
    refine lv_iadd hx hb dX12_chance_109 ?_
    refine lv_istore (lv' := [(5, .int (x5 + (1 : Int32))), (4, .int (m.1 124 1)), (0, .ref (ad 99)), (2, .int x2), (3, .int x3), (6, .int x6)]) hx hb dX12_chance_110 hl (by decide) rfl (fun ls hl => ?_)
    refine lv_iinc (v := (x6 + (1 : Int32))) (lv' := [(6, .int (x6 + (1 : Int32))), (5, .int (x5 + (1 : Int32))), (4, .int (m.1 124 1)), (0, .ref (ad 99)), (2, .int x2), (3, .int x3)]) hx hb dX12_chance_112 hl (k := 5) rfl rfl (by decide) rfl (fun ls hl => ?_)
    refine lv_goto (tgt := 39) hx hb dX12_chance_115 (by decide) ?_
    exact hk39 x2 x3 (m.1 124 1) (x5 + (1 : Int32)) (x6 + (1 : Int32)) m H locs ls hI (lv_sub hl [3, 4, 5, 2, 1, 0] rfl) hm
def fX12_chance_63 (N : Nat) (k81 : Int32 → Int32 → Int32 → Int32 → Mem → Option (Int32 × Mem)) : Nat → Int32 → Int32 → Int32 → Int32 → Int32 → Mem → Option (Int32 × Mem)
  | 0, _, _, _, _, _, _ => none
  | n + 1, x2, x3, x5, x6, x7, m => if x2 ≤ x7 then (k81 x2 x3 x5 x6 m) else ((fX12_passes N (1 : Int32) (1 : Int32) m).bind (fun q13 => fX12_chance_63 N k81 n x2 x3 x5 x6 (x7 + (1 : Int32)) q13))
set_option maxHeartbeats 4000000 in
set_option maxRecDepth 100000 in
theorem tX12_chance_63 (N : Nat) {l : Launch} {D : va_G} {ca : Nat → ClassId} {ad : Nat → Nat} {p : Program} {e : Env} {s : State} {mm : MethodId} {args : Array Value} {below : List Frame} {meth : Method} {c : Code} {k81 : Int32 → Int32 → Int32 → Int32 → Mem → Option (Int32 × Mem)} (hn : HNr ca) (X : CX p s mm args meth c cX12_chance 8 RX12 D ca ad (WA ca ad s.heap.size)) (hr : meth.sig.returnType = (some .int)) (fin : (Int32 × Mem)) (hk81 : ∀ (x2 : Int32) (x3 : Int32) (x5 : Int32) (x6 : Int32) (m : Mem) (H : Heap) (locs : List Loc) (ls : Array Slot), IW D ca ad (WA ca ad s.heap.size) s m H locs → lv_has ls 8 [(0, .ref (ad 99)), (2, .int x2), (3, .int x3), (5, .int x5), (6, .int x6)] → k81 x2 x3 x5 x6 m = some fin → W p l e rmX12_chance s mm args below meth c H locs 0 0 (MQ below (QI D ca ad s.heap.size fin.1 fin.2) args s 0 0 (WA ca ad s.heap.size)) (F0 mm 81 ls [])) : ∀ (n : Nat) (x2 : Int32) (x3 : Int32) (x5 : Int32) (x6 : Int32) (x7 : Int32) (m : Mem) (H : Heap) (locs : List Loc) (ls : Array Slot), IW D ca ad (WA ca ad s.heap.size) s m H locs → lv_has ls 8 [(0, .ref (ad 99)), (2, .int x2), (3, .int x3), (5, .int x5), (6, .int x6), (7, .int x7)] → fX12_chance_63 N k81 n x2 x3 x5 x6 x7 m = some fin → W p l e rmX12_chance s mm args below meth c H locs 0 0 (MQ below (QI D ca ad s.heap.size fin.1 fin.2) args s 0 0 (WA ca ad s.heap.size)) (F0 mm 63 ls []) := by
  have hx := X.1
  have hb := X.2.1
  intro n
  induction n with
  | zero => intro x2 x3 x5 x6 x7 m H locs ls hI hl hm
            exact absurd hm (by intro q; cases q)
  | succ n ih =>
    intro x2 x3 x5 x6 x7 m H locs ls hI hl hm
    have hm : (if x2 ≤ x7 then (k81 x2 x3 x5 x6 m) else ((fX12_passes N (1 : Int32) (1 : Int32) m).bind (fun q13 => fX12_chance_63 N k81 n x2 x3 x5 x6 (x7 + (1 : Int32)) q13))) = some fin := hm
    refine lv_iload hx hb dX12_chance_63 (lv_at hl 5 rfl) ?_
    refine lv_iload_n hx hb dX12_chance_65 rfl (lv_at hl 1 rfl) ?_
    refine lv_icmp_ge (tgt := 81) hx hb dX12_chance_66 (by decide) (fun c12 => ?_) (fun c12 => ?_)
    · have hm := g_t c12 hm
      exact hk81 x2 x3 x5 x6 m H locs ls hI (lv_sub hl [0, 1, 2, 3, 4] rfl) hm
    · have hm := g_f c12 hm
      refine lv_aload_n hx hb dX12_chance_69 rfl (lv_at hl 0 rfl) ?_
      refine lv_iconst (v := (1 : Int32)) hx hb dX12_chance_70 (by decide) ?_
      refine lv_iconst (v := (1 : Int32)) hx hb dX12_chance_71 (by decide) ?_
      obtain ⟨q13, h14, hm⟩ := g_b hm
      refine backV X hI (runV X hI (ctX12_passes N (1 : Int32) (1 : Int32)  hn _ _ h14 _) mdX12_409 (la_99 hn) rfl ⟨rfl, rfl⟩ ⟨Nat.le_of_ble_eq_true rfl, Nat.le_of_ble_eq_true rfl⟩ rfl hl.1 rfl (Nat.le_of_ble_eq_true rfl) dX12_chance_72) (fun H locs hI => ?_)
      refine lv_iinc (v := (x7 + (1 : Int32))) (lv' := [(7, .int (x7 + (1 : Int32))), (0, .ref (ad 99)), (2, .int x2), (3, .int x3), (5, .int x5), (6, .int x6)]) hx hb dX12_chance_75 hl (k := 5) rfl rfl (by decide) rfl (fun ls hl => ?_)
      refine lv_goto (tgt := 63) hx hb dX12_chance_78 (by decide) ?_
      exact ih x2 x3 x5 x6 (x7 + (1 : Int32)) q13 H locs ls hI (lv_sub hl [1, 2, 3, 4, 5, 0] rfl) hm
def fX12_chance_39 (N : Nat) : Nat → Int32 → Int32 → Int32 → Int32 → Int32 → Mem → Option (Int32 × Mem)
  | 0, _, _, _, _, _, _ => none
  | n + 1, x2, x3, x4, x5, x6, m => if (10 : Int32) ≤ x6 then (some (x5, m)) else ((fX12_copies N (1 : Int32) (0 : Int32) m).bind (fun q8 => fX12_chance_63 N (fX12_chance_81 N (fun x2 x3 x4 x5 x6 m => fX12_chance_39 N n x2 x3 x4 x5 x6 m)) N x2 x3 x5 x6 (0 : Int32) (mI q8 124 1 x4)))
set_option maxHeartbeats 4000000 in
set_option maxRecDepth 100000 in
theorem tX12_chance_39 (N : Nat) {l : Launch} {D : va_G} {ca : Nat → ClassId} {ad : Nat → Nat} {p : Program} {e : Env} {s : State} {mm : MethodId} {args : Array Value} {below : List Frame} {meth : Method} {c : Code}  (hn : HNr ca) (X : CX p s mm args meth c cX12_chance 8 RX12 D ca ad (WA ca ad s.heap.size)) (hr : meth.sig.returnType = (some .int)) (fin : (Int32 × Mem))  : ∀ (n : Nat) (x2 : Int32) (x3 : Int32) (x4 : Int32) (x5 : Int32) (x6 : Int32) (m : Mem) (H : Heap) (locs : List Loc) (ls : Array Slot), IW D ca ad (WA ca ad s.heap.size) s m H locs → lv_has ls 8 [(0, .ref (ad 99)), (2, .int x2), (3, .int x3), (4, .int x4), (5, .int x5), (6, .int x6)] → fX12_chance_39 N n x2 x3 x4 x5 x6 m = some fin → W p l e rmX12_chance s mm args below meth c H locs 0 0 (MQ below (QI D ca ad s.heap.size fin.1 fin.2) args s 0 0 (WA ca ad s.heap.size)) (F0 mm 39 ls []) := by
  have hx := X.1
  have hb := X.2.1
  intro n
  induction n with
  | zero => intro x2 x3 x4 x5 x6 m H locs ls hI hl hm
            exact absurd hm (by intro q; cases q)
  | succ n ih =>
    intro x2 x3 x4 x5 x6 m H locs ls hI hl hm
    have hm : (if (10 : Int32) ≤ x6 then (some (x5, m)) else ((fX12_copies N (1 : Int32) (0 : Int32) m).bind (fun q8 => fX12_chance_63 N (fX12_chance_81 N (fun x2 x3 x4 x5 x6 m => fX12_chance_39 N n x2 x3 x4 x5 x6 m)) N x2 x3 x5 x6 (0 : Int32) (mI q8 124 1 x4)))) = some fin := hm
    refine lv_iload hx hb dX12_chance_39 (lv_at hl 5 rfl) ?_
    refine lv_bipush (v := (10 : Int32)) hx hb dX12_chance_41 (by decide) ?_
    refine lv_icmp_ge (tgt := 118) hx hb dX12_chance_43 (by decide) (fun c7 => ?_) (fun c7 => ?_)
    · have hm := g_t c7 hm
      refine lv_iload hx hb dX12_chance_118 (lv_at hl 4 rfl) ?_
      exact rI X hI hr (g_p hm).1 (g_p hm).2 dX12_chance_120
    · have hm := g_f c7 hm
      refine lv_aload_n hx hb dX12_chance_46 rfl (lv_at hl 0 rfl) ?_
      refine lv_iconst (v := (1 : Int32)) hx hb dX12_chance_47 (by decide) ?_
      refine lv_iconst (v := (0 : Int32)) hx hb dX12_chance_48 (by decide) ?_
      obtain ⟨q8, h9, hm⟩ := g_b hm
      refine backV X hI (runV X hI (ctX12_copies N (1 : Int32) (0 : Int32)  hn _ _ h9 _) mdX12_426 (la_99 hn) rfl ⟨rfl, rfl⟩ ⟨Nat.le_of_ble_eq_true rfl, Nat.le_of_ble_eq_true rfl⟩ rfl hl.1 rfl (Nat.le_of_ble_eq_true rfl) dX12_chance_49) (fun H locs hI => ?_)
      refine lv_aload_n hx hb dX12_chance_52 rfl (lv_at hl 0 rfl) ?_
      refine gR X hI fdX12_87 (la_99 hn) rf12_40 dX12_chance_53 ?_
      refine lv_iconst (v := (1 : Int32)) hx hb dX12_chance_56 (by decide) ?_
      refine lv_iload hx hb dX12_chance_57 (lv_at hl 3 rfl) ?_
      refine sIc (j := 1) X hI (la_124 hn) (by decide) (by decide) dX12_chance_59 (fun H locs hI => ?_)
      refine lv_iconst (v := (0 : Int32)) hx hb dX12_chance_60 (by decide) ?_
      refine lv_istore (lv' := [(7, .int (0 : Int32)), (0, .ref (ad 99)), (2, .int x2), (3, .int x3), (4, .int x4), (5, .int x5), (6, .int x6)]) hx hb dX12_chance_61 hl (by decide) rfl (fun ls hl => ?_)
      exact tX12_chance_63 N hn X hr fin (tX12_chance_81 N hn X hr fin ih) N x2 x3 x5 x6 (0 : Int32) (mI q8 124 1 x4) H locs ls hI (lv_sub hl [1, 2, 3, 5, 6, 0] rfl) hm
def fX12_chance (N : Nat) (x1 : Int32) (x2 : Int32) (x3 : Int32) (m : Mem) : Option (Int32 × Mem) := if x1 < 0 then (some ((-1 : Int32), (mI m 99 0 (0 : Int32)))) else (if x2 < (1 : Int32) then (some ((-1 : Int32), (mI m 99 0 (0 : Int32)))) else (if (99 : Int32) < x2 then (some ((-1 : Int32), (mI m 99 0 (0 : Int32)))) else ((fX12_isKnight x3 (mI m 99 0 (0 : Int32))).bind (fun q4 => if q4 = 0 then (some ((-1 : Int32), (mI m 99 0 (0 : Int32)))) else (fX12_chance_39 N N x2 x3 x1 (0 : Int32) (0 : Int32) (mI m 99 0 (0 : Int32)))))))
set_option maxHeartbeats 4000000 in
set_option maxRecDepth 100000 in
theorem ctX12_chance {l : Launch} {D : va_G} {ca : Nat → ClassId} {ad : Nat → Nat} (N : Nat) (x1 : Int32) (x2 : Int32) (x3 : Int32)  (hn : HNr ca) (m : Mem) (fin : (Int32 × Mem)) (hm : fX12_chance N x1 x2 x3 m = some fin) : CI l D ca ad yX12_chance cwX12_chance rmX12_chance [.ref (ad 99), .int x1, .int x2, .int x3] m fin.1 fin.2 := by
  refine start (by decide) (Nat.le_of_ble_eq_true rfl) ?_
  intro p e s mm args below meth c H locs ls X hI hr hl
  have X : CX p s mm args meth c cX12_chance 8 RX12 D ca ad (WA ca ad s.heap.size) := X
  have hx := X.1
  have hb := X.2.1
  have hl : lv_has ls 8 [(0, .ref (ad 99)), (1, .int x1), (2, .int x2), (3, .int x3)] := hl
  have hm : (if x1 < 0 then (some ((-1 : Int32), (mI m 99 0 (0 : Int32)))) else (if x2 < (1 : Int32) then (some ((-1 : Int32), (mI m 99 0 (0 : Int32)))) else (if (99 : Int32) < x2 then (some ((-1 : Int32), (mI m 99 0 (0 : Int32)))) else ((fX12_isKnight x3 (mI m 99 0 (0 : Int32))).bind (fun q4 => if q4 = 0 then (some ((-1 : Int32), (mI m 99 0 (0 : Int32)))) else (fX12_chance_39 N N x2 x3 x1 (0 : Int32) (0 : Int32) (mI m 99 0 (0 : Int32)))))))) = some fin := hm
  refine lv_aload_n hx hb dX12_chance_0 rfl (lv_at hl 0 rfl) ?_
  refine lv_iconst (v := (0 : Int32)) hx hb dX12_chance_1 (by decide) ?_
  refine pI X hI fpX12_154 (la_99 hn) dX12_chance_2 (fun H locs hI => ?_)
  refine lv_iload_n hx hb dX12_chance_5 rfl (lv_at hl 1 rfl) ?_
  refine lv_if_lt (tgt := 28) hx hb dX12_chance_6 (by decide) (fun c1 => ?_) (fun c1 => ?_)
  · have hm := g_t c1 hm
    refine lv_iconst (v := (-1 : Int32)) hx hb dX12_chance_28 (by decide) ?_
    exact rI X hI hr (g_p hm).1 (g_p hm).2 dX12_chance_29
  · have hm := g_f c1 hm
    refine lv_iload_n hx hb dX12_chance_9 rfl (lv_at hl 2 rfl) ?_
    refine lv_iconst (v := (1 : Int32)) hx hb dX12_chance_10 (by decide) ?_
    refine lv_icmp_lt (tgt := 28) hx hb dX12_chance_11 (by decide) (fun c2 => ?_) (fun c2 => ?_)
    · have hm := g_t c2 hm
      refine lv_iconst (v := (-1 : Int32)) hx hb dX12_chance_28 (by decide) ?_
      exact rI X hI hr (g_p hm).1 (g_p hm).2 dX12_chance_29
    · have hm := g_f c2 hm
      refine lv_iload_n hx hb dX12_chance_14 rfl (lv_at hl 2 rfl) ?_
      refine lv_bipush (v := (99 : Int32)) hx hb dX12_chance_15 (by decide) ?_
      refine lv_icmp_gt (tgt := 28) hx hb dX12_chance_17 (by decide) (fun c3 => ?_) (fun c3 => ?_)
      · have hm := g_t c3 hm
        refine lv_iconst (v := (-1 : Int32)) hx hb dX12_chance_28 (by decide) ?_
        exact rI X hI hr (g_p hm).1 (g_p hm).2 dX12_chance_29
      · have hm := g_f c3 hm
        refine lv_aload_n hx hb dX12_chance_20 rfl (lv_at hl 0 rfl) ?_
        refine lv_iload_n hx hb dX12_chance_21 rfl (lv_at hl 3 rfl) ?_
        obtain ⟨q4, h5, hm⟩ := g_b hm
        refine backI X hI (runV X hI (ctX12_isKnight x3  hn _ _ h5 _) mdX12_419 (la_99 hn) rfl ⟨rfl, rfl⟩ ⟨Nat.le_of_ble_eq_true rfl, Nat.le_of_ble_eq_true rfl⟩ rfl hl.1 rfl (Nat.le_of_ble_eq_true rfl) dX12_chance_22) (fun H locs hI => ?_)
        refine lv_if_ne (tgt := 30) hx hb dX12_chance_25 (by decide) (fun c6 => ?_) (fun c6 => ?_)
        · have hm := g_f c6 hm
          refine lv_iload_n hx hb dX12_chance_30 rfl (lv_at hl 1 rfl) ?_
          refine lv_istore (lv' := [(4, .int x1), (0, .ref (ad 99)), (1, .int x1), (2, .int x2), (3, .int x3)]) hx hb dX12_chance_31 hl (by decide) rfl (fun ls hl => ?_)
          refine lv_iconst (v := (0 : Int32)) hx hb dX12_chance_33 (by decide) ?_
          refine lv_istore (lv' := [(5, .int (0 : Int32)), (4, .int x1), (0, .ref (ad 99)), (1, .int x1), (2, .int x2), (3, .int x3)]) hx hb dX12_chance_34 hl (by decide) rfl (fun ls hl => ?_)
          refine lv_iconst (v := (0 : Int32)) hx hb dX12_chance_36 (by decide) ?_
          refine lv_istore (lv' := [(6, .int (0 : Int32)), (5, .int (0 : Int32)), (4, .int x1), (0, .ref (ad 99)), (1, .int x1), (2, .int x2), (3, .int x3)]) hx hb dX12_chance_37 hl (by decide) rfl (fun ls hl => ?_)
          exact tX12_chance_39 N hn X hr fin  N x2 x3 x1 (0 : Int32) (0 : Int32) (mI m 99 0 (0 : Int32)) H locs ls hI (lv_sub hl [3, 5, 6, 2, 1, 0] rfl) hm
        · have hm := g_t c6 hm
          refine lv_iconst (v := (-1 : Int32)) hx hb dX12_chance_28 (by decide) ?_
          exact rI X hI hr (g_p hm).1 (g_p hm).2 dX12_chance_29
abbrev rmX12_tried : Room := { frames := 7, cells := 0, slots := 0, locals := 167 }
abbrev cwX12_tried : Cond := .code yX12_tried cX12_tried 5 (some .int)
theorem cmX12_tried : cwX12_tried ∈ BIG := (tb8 (List.mem_of_getElem? (i := 185) rfl) rfl)
def fX12_tried_72 (N : Nat) (x2 : Int32) (x3 : Int32) (y0 : Int32) (m : Mem) : Option (Int32 × Mem) := (fX12_goesOn N x3 (mI (mI m 99 52 y0) 99 53 x2)).bind (fun q9 => (fX12_sumOf N 131 (1 : Int32) (mI (mI q9 99 52 (0 : Int32)) 99 53 (-1 : Int32))).bind (fun q11 => some (q11, (mI (mI q9 99 52 (0 : Int32)) 99 53 (-1 : Int32)))))
set_option maxHeartbeats 4000000 in
set_option maxRecDepth 100000 in
theorem tX12_tried_72 (N : Nat) {l : Launch} {D : va_G} {ca : Nat → ClassId} {ad : Nat → Nat} {p : Program} {e : Env} {s : State} {mm : MethodId} {args : Array Value} {below : List Frame} {meth : Method} {c : Code}  (hn : HNr ca) (X : CX p s mm args meth c cX12_tried 5 RX12 D ca ad (WA ca ad s.heap.size)) (hr : meth.sig.returnType = (some .int)) (fin : (Int32 × Mem))  : ∀ (x2 : Int32) (x3 : Int32) (y0 : Int32) (m : Mem) (H : Heap) (locs : List Loc) (ls : Array Slot), IW D ca ad (WA ca ad s.heap.size) s m H locs → lv_has ls 5 [(0, .ref (ad 99)), (2, .int x2), (3, .int x3)] → fX12_tried_72 N x2 x3 y0 m = some fin → W p l e rmX12_tried s mm args below meth c H locs 0 0 (MQ below (QI D ca ad s.heap.size fin.1 fin.2) args s 0 0 (WA ca ad s.heap.size)) (F0 mm 72 ls [.int y0, .ref (ad 99)]) := by
  have hx := X.1
  have hb := X.2.1
  intro x2 x3 y0 m H locs ls hI hl hm
  have hm : ((fX12_goesOn N x3 (mI (mI m 99 52 y0) 99 53 x2)).bind (fun q9 => (fX12_sumOf N 131 (1 : Int32) (mI (mI q9 99 52 (0 : Int32)) 99 53 (-1 : Int32))).bind (fun q11 => some (q11, (mI (mI q9 99 52 (0 : Int32)) 99 53 (-1 : Int32)))))) = some fin := hm
  refine pI X hI fpX12_375 (la_99 hn) dX12_tried_72 (fun H locs hI => ?_)
  refine lv_aload_n hx hb dX12_tried_75 rfl (lv_at hl 0 rfl) ?_
  refine lv_iload_n hx hb dX12_tried_76 rfl (lv_at hl 1 rfl) ?_
  refine pI X hI fpX12_117 (la_99 hn) dX12_tried_77 (fun H locs hI => ?_)
  refine lv_aload_n hx hb dX12_tried_80 rfl (lv_at hl 0 rfl) ?_
  refine lv_iload_n hx hb dX12_tried_81 rfl (lv_at hl 2 rfl) ?_
  obtain ⟨q9, h10, hm⟩ := g_b hm
  refine backV X hI (runV X hI (ctX12_goesOn N x3  hn _ _ h10 _) mdX12_432 (la_99 hn) rfl ⟨rfl, rfl⟩ ⟨Nat.le_of_ble_eq_true rfl, Nat.le_of_ble_eq_true rfl⟩ rfl hl.1 rfl (Nat.le_of_ble_eq_true rfl) dX12_tried_82) (fun H locs hI => ?_)
  refine lv_aload_n hx hb dX12_tried_85 rfl (lv_at hl 0 rfl) ?_
  refine lv_iconst (v := (0 : Int32)) hx hb dX12_tried_86 (by decide) ?_
  refine pI X hI fpX12_375 (la_99 hn) dX12_tried_87 (fun H locs hI => ?_)
  refine lv_aload_n hx hb dX12_tried_90 rfl (lv_at hl 0 rfl) ?_
  refine lv_iconst (v := (-1 : Int32)) hx hb dX12_tried_91 (by decide) ?_
  refine pI X hI fpX12_117 (la_99 hn) dX12_tried_92 (fun H locs hI => ?_)
  refine lv_aload_n hx hb dX12_tried_95 rfl (lv_at hl 0 rfl) ?_
  refine lv_aload_n hx hb dX12_tried_96 rfl (lv_at hl 0 rfl) ?_
  refine gR X hI fdX12_108 (la_99 hn) rf12_47 dX12_tried_97 ?_
  refine lv_iconst (v := (1 : Int32)) hx hb dX12_tried_100 (by decide) ?_
  obtain ⟨q11, h12, hm⟩ := g_b hm
  refine backI X hI (runV X hI (ctX12_sumOf N 131 (1 : Int32) (ly_self (la_131 hn)) hn _ _ h12 _) mdX12_435 (la_99 hn) rfl ⟨rfl, rfl⟩ ⟨Nat.le_of_ble_eq_true rfl, Nat.le_of_ble_eq_true rfl⟩ rfl hl.1 rfl (Nat.le_of_ble_eq_true rfl) dX12_tried_101) (fun H locs hI => ?_)
  exact rI X hI hr (g_p hm).1 (g_p hm).2 dX12_tried_104
def fX12_tried_36 (N : Nat) (x1 : Int32) (x2 : Int32) (x3 : Int32) (y0 : Int32) (m : Mem) : Option (Int32 × Mem) := if y0 = 0 then (some ((-1 : Int32), m)) else (if x3 < 0 then (some ((-1 : Int32), m)) else (if x3 ≤ (200 : Int32) then ((fX12_copies N (1 : Int32) (0 : Int32) m).bind (fun q6 => if x1 = 0 then (fX12_tried_72 N x2 x3 (5 : Int32) q6) else (fX12_tried_72 N x2 x3 x1 q6))) else (some ((-1 : Int32), m))))
set_option maxHeartbeats 4000000 in
set_option maxRecDepth 100000 in
theorem tX12_tried_36 (N : Nat) {l : Launch} {D : va_G} {ca : Nat → ClassId} {ad : Nat → Nat} {p : Program} {e : Env} {s : State} {mm : MethodId} {args : Array Value} {below : List Frame} {meth : Method} {c : Code}  (hn : HNr ca) (X : CX p s mm args meth c cX12_tried 5 RX12 D ca ad (WA ca ad s.heap.size)) (hr : meth.sig.returnType = (some .int)) (fin : (Int32 × Mem))  : ∀ (x1 : Int32) (x2 : Int32) (x3 : Int32) (y0 : Int32) (m : Mem) (H : Heap) (locs : List Loc) (ls : Array Slot), IW D ca ad (WA ca ad s.heap.size) s m H locs → lv_has ls 5 [(0, .ref (ad 99)), (1, .int x1), (2, .int x2), (3, .int x3)] → fX12_tried_36 N x1 x2 x3 y0 m = some fin → W p l e rmX12_tried s mm args below meth c H locs 0 0 (MQ below (QI D ca ad s.heap.size fin.1 fin.2) args s 0 0 (WA ca ad s.heap.size)) (F0 mm 36 ls [.int y0]) := by
  have hx := X.1
  have hb := X.2.1
  intro x1 x2 x3 y0 m H locs ls hI hl hm
  have hm : (if y0 = 0 then (some ((-1 : Int32), m)) else (if x3 < 0 then (some ((-1 : Int32), m)) else (if x3 ≤ (200 : Int32) then ((fX12_copies N (1 : Int32) (0 : Int32) m).bind (fun q6 => if x1 = 0 then (fX12_tried_72 N x2 x3 (5 : Int32) q6) else (fX12_tried_72 N x2 x3 x1 q6))) else (some ((-1 : Int32), m))))) = some fin := hm
  refine lv_istore (lv' := [(4, .int y0), (0, .ref (ad 99)), (1, .int x1), (2, .int x2), (3, .int x3)]) hx hb dX12_tried_36 hl (by decide) rfl (fun ls hl => ?_)
  refine lv_iload hx hb dX12_tried_38 (lv_at hl 0 rfl) ?_
  refine lv_if_eq (tgt := 54) hx hb dX12_tried_40 (by decide) (fun c3 => ?_) (fun c3 => ?_)
  · have hm := g_t c3 hm
    refine lv_iconst (v := (-1 : Int32)) hx hb dX12_tried_54 (by decide) ?_
    exact rI X hI hr (g_p hm).1 (g_p hm).2 dX12_tried_55
  · have hm := g_f c3 hm
    refine lv_iload_n hx hb dX12_tried_43 rfl (lv_at hl 4 rfl) ?_
    refine lv_if_lt (tgt := 54) hx hb dX12_tried_44 (by decide) (fun c4 => ?_) (fun c4 => ?_)
    · have hm := g_t c4 hm
      refine lv_iconst (v := (-1 : Int32)) hx hb dX12_tried_54 (by decide) ?_
      exact rI X hI hr (g_p hm).1 (g_p hm).2 dX12_tried_55
    · have hm := g_f c4 hm
      refine lv_iload_n hx hb dX12_tried_47 rfl (lv_at hl 4 rfl) ?_
      refine lv_sipush (v := (200 : Int32)) hx hb dX12_tried_48 (by decide) ?_
      refine lv_icmp_le (tgt := 56) hx hb dX12_tried_51 (by decide) (fun c5 => ?_) (fun c5 => ?_)
      · have hm := g_t c5 hm
        refine lv_aload_n hx hb dX12_tried_56 rfl (lv_at hl 1 rfl) ?_
        refine lv_iconst (v := (1 : Int32)) hx hb dX12_tried_57 (by decide) ?_
        refine lv_iconst (v := (0 : Int32)) hx hb dX12_tried_58 (by decide) ?_
        obtain ⟨q6, h7, hm⟩ := g_b hm
        refine backV X hI (runV X hI (ctX12_copies N (1 : Int32) (0 : Int32)  hn _ _ h7 _) mdX12_426 (la_99 hn) rfl ⟨rfl, rfl⟩ ⟨Nat.le_of_ble_eq_true rfl, Nat.le_of_ble_eq_true rfl⟩ rfl hl.1 rfl (Nat.le_of_ble_eq_true rfl) dX12_tried_59) (fun H locs hI => ?_)
        refine lv_aload_n hx hb dX12_tried_62 rfl (lv_at hl 1 rfl) ?_
        refine lv_iload_n hx hb dX12_tried_63 rfl (lv_at hl 2 rfl) ?_
        refine lv_if_ne (tgt := 71) hx hb dX12_tried_64 (by decide) (fun c8 => ?_) (fun c8 => ?_)
        · have hm := g_f c8 hm
          refine lv_iload_n hx hb dX12_tried_71 rfl (lv_at hl 2 rfl) ?_
          exact tX12_tried_72 N hn X hr fin  x2 x3 x1 q6 H locs ls hI (lv_sub hl [1, 3, 4] rfl) hm
        · have hm := g_t c8 hm
          refine lv_iconst (v := (5 : Int32)) hx hb dX12_tried_67 (by decide) ?_
          refine lv_goto (tgt := 72) hx hb dX12_tried_68 (by decide) ?_
          exact tX12_tried_72 N hn X hr fin  x2 x3 (5 : Int32) q6 H locs ls hI (lv_sub hl [1, 3, 4] rfl) hm
      · have hm := g_f c5 hm
        refine lv_iconst (v := (-1 : Int32)) hx hb dX12_tried_54 (by decide) ?_
        exact rI X hI hr (g_p hm).1 (g_p hm).2 dX12_tried_55
def fX12_tried_35 (N : Nat) (x1 : Int32) (x2 : Int32) (x3 : Int32) (m : Mem) : Option (Int32 × Mem) := fX12_tried_36 N x1 x2 x3 (0 : Int32) m
set_option maxHeartbeats 4000000 in
set_option maxRecDepth 100000 in
theorem tX12_tried_35 (N : Nat) {l : Launch} {D : va_G} {ca : Nat → ClassId} {ad : Nat → Nat} {p : Program} {e : Env} {s : State} {mm : MethodId} {args : Array Value} {below : List Frame} {meth : Method} {c : Code}  (hn : HNr ca) (X : CX p s mm args meth c cX12_tried 5 RX12 D ca ad (WA ca ad s.heap.size)) (hr : meth.sig.returnType = (some .int)) (fin : (Int32 × Mem))  : ∀ (x1 : Int32) (x2 : Int32) (x3 : Int32) (m : Mem) (H : Heap) (locs : List Loc) (ls : Array Slot), IW D ca ad (WA ca ad s.heap.size) s m H locs → lv_has ls 5 [(0, .ref (ad 99)), (1, .int x1), (2, .int x2), (3, .int x3)] → fX12_tried_35 N x1 x2 x3 m = some fin → W p l e rmX12_tried s mm args below meth c H locs 0 0 (MQ below (QI D ca ad s.heap.size fin.1 fin.2) args s 0 0 (WA ca ad s.heap.size)) (F0 mm 35 ls []) := by
  have hx := X.1
  have hb := X.2.1
  intro x1 x2 x3 m H locs ls hI hl hm
  have hm : (fX12_tried_36 N x1 x2 x3 (0 : Int32) m) = some fin := hm
  refine lv_iconst (v := (0 : Int32)) hx hb dX12_tried_35 (by decide) ?_
  exact tX12_tried_36 N hn X hr fin  x1 x2 x3 (0 : Int32) m H locs ls hI (lv_sub hl [0, 1, 2, 3] rfl) hm
def fX12_tried (N : Nat) (x1 : Int32) (x2 : Int32) (x3 : Int32) (m : Mem) : Option (Int32 × Mem) := if x1 = (2 : Int32) then ((fX12_isKnight x2 (mI m 99 0 (0 : Int32))).bind (fun q15 => fX12_tried_36 N x1 x2 x3 q15 (mI m 99 0 (0 : Int32)))) else (if x1 < 0 then (fX12_tried_35 N x1 x2 x3 (mI m 99 0 (0 : Int32))) else (if (4 : Int32) < x1 then (fX12_tried_35 N x1 x2 x3 (mI m 99 0 (0 : Int32))) else (if x2 = 0 then (fX12_tried_36 N x1 x2 x3 (1 : Int32) (mI m 99 0 (0 : Int32))) else (fX12_tried_35 N x1 x2 x3 (mI m 99 0 (0 : Int32))))))
set_option maxHeartbeats 4000000 in
set_option maxRecDepth 100000 in
theorem ctX12_tried {l : Launch} {D : va_G} {ca : Nat → ClassId} {ad : Nat → Nat} (N : Nat) (x1 : Int32) (x2 : Int32) (x3 : Int32)  (hn : HNr ca) (m : Mem) (fin : (Int32 × Mem)) (hm : fX12_tried N x1 x2 x3 m = some fin) : CI l D ca ad yX12_tried cwX12_tried rmX12_tried [.ref (ad 99), .int x1, .int x2, .int x3] m fin.1 fin.2 := by
  refine start (by decide) (Nat.le_of_ble_eq_true rfl) ?_
  intro p e s mm args below meth c H locs ls X hI hr hl
  have X : CX p s mm args meth c cX12_tried 5 RX12 D ca ad (WA ca ad s.heap.size) := X
  have hx := X.1
  have hb := X.2.1
  have hl : lv_has ls 5 [(0, .ref (ad 99)), (1, .int x1), (2, .int x2), (3, .int x3)] := hl
  have hm : (if x1 = (2 : Int32) then ((fX12_isKnight x2 (mI m 99 0 (0 : Int32))).bind (fun q15 => fX12_tried_36 N x1 x2 x3 q15 (mI m 99 0 (0 : Int32)))) else (if x1 < 0 then (fX12_tried_35 N x1 x2 x3 (mI m 99 0 (0 : Int32))) else (if (4 : Int32) < x1 then (fX12_tried_35 N x1 x2 x3 (mI m 99 0 (0 : Int32))) else (if x2 = 0 then (fX12_tried_36 N x1 x2 x3 (1 : Int32) (mI m 99 0 (0 : Int32))) else (fX12_tried_35 N x1 x2 x3 (mI m 99 0 (0 : Int32))))))) = some fin := hm
  refine lv_aload_n hx hb dX12_tried_0 rfl (lv_at hl 0 rfl) ?_
  refine lv_iconst (v := (0 : Int32)) hx hb dX12_tried_1 (by decide) ?_
  refine pI X hI fpX12_154 (la_99 hn) dX12_tried_2 (fun H locs hI => ?_)
  refine lv_iload_n hx hb dX12_tried_5 rfl (lv_at hl 1 rfl) ?_
  refine lv_iconst (v := (2 : Int32)) hx hb dX12_tried_6 (by decide) ?_
  refine lv_icmp_ne (tgt := 18) hx hb dX12_tried_7 (by decide) (fun c1 => ?_) (fun c1 => ?_)
  · have hm := g_f c1 hm
    refine lv_iload_n hx hb dX12_tried_18 rfl (lv_at hl 1 rfl) ?_
    refine lv_if_lt (tgt := 35) hx hb dX12_tried_19 (by decide) (fun c2 => ?_) (fun c2 => ?_)
    · have hm := g_t c2 hm
      exact tX12_tried_35 N hn X hr fin  x1 x2 x3 (mI m 99 0 (0 : Int32)) H locs ls hI (lv_sub hl [0, 1, 2, 3] rfl) hm
    · have hm := g_f c2 hm
      refine lv_iload_n hx hb dX12_tried_22 rfl (lv_at hl 1 rfl) ?_
      refine lv_iconst (v := (4 : Int32)) hx hb dX12_tried_23 (by decide) ?_
      refine lv_icmp_gt (tgt := 35) hx hb dX12_tried_24 (by decide) (fun c13 => ?_) (fun c13 => ?_)
      · have hm := g_t c13 hm
        exact tX12_tried_35 N hn X hr fin  x1 x2 x3 (mI m 99 0 (0 : Int32)) H locs ls hI (lv_sub hl [0, 1, 2, 3] rfl) hm
      · have hm := g_f c13 hm
        refine lv_iload_n hx hb dX12_tried_27 rfl (lv_at hl 2 rfl) ?_
        refine lv_if_ne (tgt := 35) hx hb dX12_tried_28 (by decide) (fun c14 => ?_) (fun c14 => ?_)
        · have hm := g_f c14 hm
          exact tX12_tried_35 N hn X hr fin  x1 x2 x3 (mI m 99 0 (0 : Int32)) H locs ls hI (lv_sub hl [0, 1, 2, 3] rfl) hm
        · have hm := g_t c14 hm
          refine lv_iconst (v := (1 : Int32)) hx hb dX12_tried_31 (by decide) ?_
          refine lv_goto (tgt := 36) hx hb dX12_tried_32 (by decide) ?_
          exact tX12_tried_36 N hn X hr fin  x1 x2 x3 (1 : Int32) (mI m 99 0 (0 : Int32)) H locs ls hI (lv_sub hl [0, 1, 2, 3] rfl) hm
  · have hm := g_t c1 hm
    refine lv_aload_n hx hb dX12_tried_10 rfl (lv_at hl 0 rfl) ?_
    refine lv_iload_n hx hb dX12_tried_11 rfl (lv_at hl 2 rfl) ?_
    obtain ⟨q15, h16, hm⟩ := g_b hm
    refine backI X hI (runV X hI (ctX12_isKnight x2  hn _ _ h16 _) mdX12_419 (la_99 hn) rfl ⟨rfl, rfl⟩ ⟨Nat.le_of_ble_eq_true rfl, Nat.le_of_ble_eq_true rfl⟩ rfl hl.1 rfl (Nat.le_of_ble_eq_true rfl) dX12_tried_12) (fun H locs hI => ?_)
    refine lv_goto (tgt := 36) hx hb dX12_tried_15 (by decide) ?_
    exact tX12_tried_36 N hn X hr fin  x1 x2 x3 q15 (mI m 99 0 (0 : Int32)) H locs ls hI (lv_sub hl [0, 1, 2, 3] rfl) hm
abbrev rmX12_undo : Room := { frames := 1, cells := 0, slots := 0, locals := 25 }
abbrev cwX12_undo : Cond := .code yX12_undo cX12_undo 1 (some .int)
theorem cmX12_undo : cwX12_undo ∈ BIG := (tb8 (List.mem_of_getElem? (i := 189) rfl) rfl)
def fX12_undo (N : Nat)  (m : Mem) : Option (Int32 × Mem) := if ((mI m 99 0 (0 : Int32)).1 99 51) = 0 then (some ((-1 : Int32), (mI m 99 0 (0 : Int32)))) else ((fX12_copies N (0 : Int32) ((3 : Int32) + ((mI (mI m 99 0 (0 : Int32)) 99 51 (((mI m 99 0 (0 : Int32)).1 99 51) - (1 : Int32))).1 99 51)) (mI (mI m 99 0 (0 : Int32)) 99 51 (((mI m 99 0 (0 : Int32)).1 99 51) - (1 : Int32)))).bind (fun q2 => some ((q2.1 99 51), q2)))
set_option maxHeartbeats 4000000 in
set_option maxRecDepth 100000 in
theorem ctX12_undo {l : Launch} {D : va_G} {ca : Nat → ClassId} {ad : Nat → Nat} (N : Nat)   (hn : HNr ca) (m : Mem) (fin : (Int32 × Mem)) (hm : fX12_undo N m = some fin) : CI l D ca ad yX12_undo cwX12_undo rmX12_undo [.ref (ad 99)] m fin.1 fin.2 := by
  refine start (by decide) (Nat.le_of_ble_eq_true rfl) ?_
  intro p e s mm args below meth c H locs ls X hI hr hl
  have X : CX p s mm args meth c cX12_undo 1 RX12 D ca ad (WA ca ad s.heap.size) := X
  have hx := X.1
  have hb := X.2.1
  have hl : lv_has ls 1 [(0, .ref (ad 99))] := hl
  have hm : (if ((mI m 99 0 (0 : Int32)).1 99 51) = 0 then (some ((-1 : Int32), (mI m 99 0 (0 : Int32)))) else ((fX12_copies N (0 : Int32) ((3 : Int32) + ((mI (mI m 99 0 (0 : Int32)) 99 51 (((mI m 99 0 (0 : Int32)).1 99 51) - (1 : Int32))).1 99 51)) (mI (mI m 99 0 (0 : Int32)) 99 51 (((mI m 99 0 (0 : Int32)).1 99 51) - (1 : Int32)))).bind (fun q2 => some ((q2.1 99 51), q2)))) = some fin := hm
  refine lv_aload_n hx hb dX12_undo_0 rfl (lv_at hl 0 rfl) ?_
  refine lv_iconst (v := (0 : Int32)) hx hb dX12_undo_1 (by decide) ?_
  refine pI X hI fpX12_154 (la_99 hn) dX12_undo_2 (fun H locs hI => ?_)
  refine lv_aload_n hx hb dX12_undo_5 rfl (lv_at hl 0 rfl) ?_
  refine gI X hI fdX12_317 (la_99 hn) dX12_undo_6 ?_
  refine lv_if_ne (tgt := 14) hx hb dX12_undo_9 (by decide) (fun c1 => ?_) (fun c1 => ?_)
  · have hm := g_f c1 hm
    refine lv_aload_n hx hb dX12_undo_14 rfl (lv_at hl 0 rfl) ?_
    refine lv_dup hx hb dX12_undo_15 rfl ?_
    refine gI X hI fdX12_317 (la_99 hn) dX12_undo_16 ?_
    refine lv_iconst (v := (1 : Int32)) hx hb dX12_undo_19 (by decide) ?_
    refine lv_isub hx hb dX12_undo_20 ?_
    refine pI X hI fpX12_317 (la_99 hn) dX12_undo_21 (fun H locs hI => ?_)
    refine lv_aload_n hx hb dX12_undo_24 rfl (lv_at hl 0 rfl) ?_
    refine lv_iconst (v := (0 : Int32)) hx hb dX12_undo_25 (by decide) ?_
    refine lv_iconst (v := (3 : Int32)) hx hb dX12_undo_26 (by decide) ?_
    refine lv_aload_n hx hb dX12_undo_27 rfl (lv_at hl 0 rfl) ?_
    refine gI X hI fdX12_317 (la_99 hn) dX12_undo_28 ?_
    refine lv_iadd hx hb dX12_undo_31 ?_
    obtain ⟨q2, h3, hm⟩ := g_b hm
    refine backV X hI (runV X hI (ctX12_copies N (0 : Int32) ((3 : Int32) + ((mI (mI m 99 0 (0 : Int32)) 99 51 (((mI m 99 0 (0 : Int32)).1 99 51) - (1 : Int32))).1 99 51))  hn _ _ h3 _) mdX12_426 (la_99 hn) rfl ⟨rfl, rfl⟩ ⟨Nat.le_of_ble_eq_true rfl, Nat.le_of_ble_eq_true rfl⟩ rfl hl.1 rfl (Nat.le_of_ble_eq_true rfl) dX12_undo_32) (fun H locs hI => ?_)
    refine lv_aload_n hx hb dX12_undo_35 rfl (lv_at hl 0 rfl) ?_
    refine gI X hI fdX12_317 (la_99 hn) dX12_undo_36 ?_
    exact rI X hI hr (g_p hm).1 (g_p hm).2 dX12_undo_39
  · have hm := g_t c1 hm
    refine lv_iconst (v := (-1 : Int32)) hx hb dX12_undo_12 (by decide) ?_
    exact rI X hI hr (g_p hm).1 (g_p hm).2 dX12_undo_13
abbrev rmX12_keep : Room := { frames := 1, cells := 0, slots := 0, locals := 25 }
abbrev cwX12_keep : Cond := .code yX12_keep cX12_keep 1 (some .int)
theorem cmX12_keep : cwX12_keep ∈ BIG := (tb8 (List.mem_of_getElem? (i := 193) rfl) rfl)
def fX12_keep (N : Nat)  (m : Mem) : Option (Int32 × Mem) := (fX12_copies N (2 : Int32) (0 : Int32) (mI m 99 0 (0 : Int32))).bind (fun q1 => some (((mI q1 99 50 (1 : Int32)).1 123 0), (mI q1 99 50 (1 : Int32))))
set_option maxHeartbeats 4000000 in
set_option maxRecDepth 100000 in
theorem ctX12_keep {l : Launch} {D : va_G} {ca : Nat → ClassId} {ad : Nat → Nat} (N : Nat)   (hn : HNr ca) (m : Mem) (fin : (Int32 × Mem)) (hm : fX12_keep N m = some fin) : CI l D ca ad yX12_keep cwX12_keep rmX12_keep [.ref (ad 99)] m fin.1 fin.2 := by
  refine start (by decide) (Nat.le_of_ble_eq_true rfl) ?_
  intro p e s mm args below meth c H locs ls X hI hr hl
  have X : CX p s mm args meth c cX12_keep 1 RX12 D ca ad (WA ca ad s.heap.size) := X
  have hx := X.1
  have hb := X.2.1
  have hl : lv_has ls 1 [(0, .ref (ad 99))] := hl
  have hm : ((fX12_copies N (2 : Int32) (0 : Int32) (mI m 99 0 (0 : Int32))).bind (fun q1 => some (((mI q1 99 50 (1 : Int32)).1 123 0), (mI q1 99 50 (1 : Int32))))) = some fin := hm
  refine lv_aload_n hx hb dX12_keep_0 rfl (lv_at hl 0 rfl) ?_
  refine lv_iconst (v := (0 : Int32)) hx hb dX12_keep_1 (by decide) ?_
  refine pI X hI fpX12_154 (la_99 hn) dX12_keep_2 (fun H locs hI => ?_)
  refine lv_aload_n hx hb dX12_keep_5 rfl (lv_at hl 0 rfl) ?_
  refine lv_iconst (v := (2 : Int32)) hx hb dX12_keep_6 (by decide) ?_
  refine lv_iconst (v := (0 : Int32)) hx hb dX12_keep_7 (by decide) ?_
  obtain ⟨q1, h2, hm⟩ := g_b hm
  refine backV X hI (runV X hI (ctX12_copies N (2 : Int32) (0 : Int32)  hn _ _ h2 _) mdX12_426 (la_99 hn) rfl ⟨rfl, rfl⟩ ⟨Nat.le_of_ble_eq_true rfl, Nat.le_of_ble_eq_true rfl⟩ rfl hl.1 rfl (Nat.le_of_ble_eq_true rfl) dX12_keep_8) (fun H locs hI => ?_)
  refine lv_aload_n hx hb dX12_keep_11 rfl (lv_at hl 0 rfl) ?_
  refine lv_iconst (v := (1 : Int32)) hx hb dX12_keep_12 (by decide) ?_
  refine pZ X hI fpX12_313 (la_99 hn) (by decide) dX12_keep_13 (fun H locs hI => ?_)
  refine lv_aload_n hx hb dX12_keep_16 rfl (lv_at hl 0 rfl) ?_
  refine gR X hI fdX12_84 (la_99 hn) rf12_39 dX12_keep_17 ?_
  refine lv_iconst (v := (0 : Int32)) hx hb dX12_keep_20 (by decide) ?_
  refine aIc (j := 0) X hI (la_123 hn) (by decide) (by decide) dX12_keep_21 ?_
  exact rI X hI hr (g_p hm).1 (g_p hm).2 dX12_keep_22
abbrev rmX12_back : Room := { frames := 1, cells := 0, slots := 0, locals := 25 }
abbrev cwX12_back : Cond := .code yX12_back cX12_back 1 (some .int)
theorem cmX12_back : cwX12_back ∈ BIG := (tb8 (List.mem_of_getElem? (i := 197) rfl) rfl)
def fX12_back (N : Nat)  (m : Mem) : Option (Int32 × Mem) := if ((mI m 99 0 (0 : Int32)).1 99 50) = 0 then (some ((-1 : Int32), (mI m 99 0 (0 : Int32)))) else ((fX12_copies N (0 : Int32) (2 : Int32) (mI m 99 0 (0 : Int32))).bind (fun q2 => some (((mI q2 99 51 (0 : Int32)).1 123 0), (mI q2 99 51 (0 : Int32)))))
set_option maxHeartbeats 4000000 in
set_option maxRecDepth 100000 in
theorem ctX12_back {l : Launch} {D : va_G} {ca : Nat → ClassId} {ad : Nat → Nat} (N : Nat)   (hn : HNr ca) (m : Mem) (fin : (Int32 × Mem)) (hm : fX12_back N m = some fin) : CI l D ca ad yX12_back cwX12_back rmX12_back [.ref (ad 99)] m fin.1 fin.2 := by
  refine start (by decide) (Nat.le_of_ble_eq_true rfl) ?_
  intro p e s mm args below meth c H locs ls X hI hr hl
  have X : CX p s mm args meth c cX12_back 1 RX12 D ca ad (WA ca ad s.heap.size) := X
  have hx := X.1
  have hb := X.2.1
  have hl : lv_has ls 1 [(0, .ref (ad 99))] := hl
  have hm : (if ((mI m 99 0 (0 : Int32)).1 99 50) = 0 then (some ((-1 : Int32), (mI m 99 0 (0 : Int32)))) else ((fX12_copies N (0 : Int32) (2 : Int32) (mI m 99 0 (0 : Int32))).bind (fun q2 => some (((mI q2 99 51 (0 : Int32)).1 123 0), (mI q2 99 51 (0 : Int32)))))) = some fin := hm
  refine lv_aload_n hx hb dX12_back_0 rfl (lv_at hl 0 rfl) ?_
  refine lv_iconst (v := (0 : Int32)) hx hb dX12_back_1 (by decide) ?_
  refine pI X hI fpX12_154 (la_99 hn) dX12_back_2 (fun H locs hI => ?_)
  refine lv_aload_n hx hb dX12_back_5 rfl (lv_at hl 0 rfl) ?_
  refine gI X hI fdX12_313 (la_99 hn) dX12_back_6 ?_
  refine lv_if_ne (tgt := 14) hx hb dX12_back_9 (by decide) (fun c1 => ?_) (fun c1 => ?_)
  · have hm := g_f c1 hm
    refine lv_aload_n hx hb dX12_back_14 rfl (lv_at hl 0 rfl) ?_
    refine lv_iconst (v := (0 : Int32)) hx hb dX12_back_15 (by decide) ?_
    refine lv_iconst (v := (2 : Int32)) hx hb dX12_back_16 (by decide) ?_
    obtain ⟨q2, h3, hm⟩ := g_b hm
    refine backV X hI (runV X hI (ctX12_copies N (0 : Int32) (2 : Int32)  hn _ _ h3 _) mdX12_426 (la_99 hn) rfl ⟨rfl, rfl⟩ ⟨Nat.le_of_ble_eq_true rfl, Nat.le_of_ble_eq_true rfl⟩ rfl hl.1 rfl (Nat.le_of_ble_eq_true rfl) dX12_back_17) (fun H locs hI => ?_)
    refine lv_aload_n hx hb dX12_back_20 rfl (lv_at hl 0 rfl) ?_
    refine lv_iconst (v := (0 : Int32)) hx hb dX12_back_21 (by decide) ?_
    refine pI X hI fpX12_317 (la_99 hn) dX12_back_22 (fun H locs hI => ?_)
    refine lv_aload_n hx hb dX12_back_25 rfl (lv_at hl 0 rfl) ?_
    refine gR X hI fdX12_84 (la_99 hn) rf12_39 dX12_back_26 ?_
    refine lv_iconst (v := (0 : Int32)) hx hb dX12_back_29 (by decide) ?_
    refine aIc (j := 0) X hI (la_123 hn) (by decide) (by decide) dX12_back_30 ?_
    exact rI X hI hr (g_p hm).1 (g_p hm).2 dX12_back_31
  · have hm := g_t c1 hm
    refine lv_iconst (v := (-1 : Int32)) hx hb dX12_back_12 (by decide) ?_
    exact rI X hI hr (g_p hm).1 (g_p hm).2 dX12_back_13
abbrev rmX12_inTubs : Room := { frames := 0, cells := 0, slots := 0, locals := 0 }
def fX12_inTubs_4 (N : Nat) : Nat → Int32 → Int32 → Mem → Option Int32
  | 0, _, _, _ => none
  | n + 1, x1, x2, m => if (m.1 101 0) ≤ x2 then (some x1) else (if x2 < 0 ∨ 138 ≤ x2.toNatClampNeg then none else (if (m.1 129 x2.toNatClampNeg) = (-1 : Int32) then (fX12_inTubs_4 N n (x1 + (0 : Int32)) (x2 + (1 : Int32)) m) else (fX12_inTubs_4 N n (x1 + (1 : Int32)) (x2 + (1 : Int32)) m)))
set_option maxHeartbeats 4000000 in
set_option maxRecDepth 100000 in
theorem tX12_inTubs_4 (N : Nat) {l : Launch} {D : va_G} {ca : Nat → ClassId} {ad : Nat → Nat} {p : Program} {e : Env} {s : State} {mm : MethodId} {args : Array Value} {below : List Frame} {meth : Method} {c : Code}  (hn : HNr ca) (X : CX p s mm args meth c cX12_inTubs 3 RX12 D ca ad (WA ca ad s.heap.size)) (hr : meth.sig.returnType = (some .int)) (fin : Int32) (m0 : Mem)  : ∀ (n : Nat) (x1 : Int32) (x2 : Int32) (m : Mem) (H : Heap) (locs : List Loc) (ls : Array Slot), IW D ca ad (WA ca ad s.heap.size) s m H locs → lv_has ls 3 [(0, .ref (ad 99)), (1, .int x1), (2, .int x2)] → fX12_inTubs_4 N n x1 x2 m = some fin → m = m0 → W p l e rmX12_inTubs s mm args below meth c H locs 0 0 (MQ below (QI D ca ad s.heap.size fin m0) args s 0 0 (WA ca ad s.heap.size)) (F0 mm 4 ls []) := by
  have hx := X.1
  have hb := X.2.1
  intro n
  induction n with
  | zero => intro x1 x2 m H locs ls hI hl hm hpm
            exact absurd hm (by intro q; cases q)
  | succ n ih =>
    intro x1 x2 m H locs ls hI hl hm hpm
    have hm : (if (m.1 101 0) ≤ x2 then (some x1) else (if x2 < 0 ∨ 138 ≤ x2.toNatClampNeg then none else (if (m.1 129 x2.toNatClampNeg) = (-1 : Int32) then (fX12_inTubs_4 N n (x1 + (0 : Int32)) (x2 + (1 : Int32)) m) else (fX12_inTubs_4 N n (x1 + (1 : Int32)) (x2 + (1 : Int32)) m)))) = some fin := hm
    refine lv_iload_n hx hb dX12_inTubs_4 rfl (lv_at hl 2 rfl) ?_
    refine lv_aload_n hx hb dX12_inTubs_5 rfl (lv_at hl 0 rfl) ?_
    refine gR X hI fdX12_13 (la_99 hn) rf12_3 dX12_inTubs_6 ?_
    refine lv_iconst (v := (0 : Int32)) hx hb dX12_inTubs_9 (by decide) ?_
    refine aIc (j := 0) X hI (la_101 hn) (by decide) (by decide) dX12_inTubs_10 ?_
    refine lv_icmp_ge (tgt := 38) hx hb dX12_inTubs_11 (by decide) (fun c1 => ?_) (fun c1 => ?_)
    · have hm := g_t c1 hm
      refine lv_iload_n hx hb dX12_inTubs_38 rfl (lv_at hl 1 rfl) ?_
      exact rI X hI hr (g_1 hm) hpm dX12_inTubs_39
    · have hm := g_f c1 hm
      refine lv_iload_n hx hb dX12_inTubs_14 rfl (lv_at hl 1 rfl) ?_
      refine lv_aload_n hx hb dX12_inTubs_15 rfl (lv_at hl 0 rfl) ?_
      refine gR X hI fdX12_102 (la_99 hn) rf12_45 dX12_inTubs_16 ?_
      refine lv_iload_n hx hb dX12_inTubs_19 rfl (lv_at hl 2 rfl) ?_
      obtain ⟨g2, hm⟩ := g_no hm
      refine aI X hI (la_129 hn) g2 dX12_inTubs_20 ?_
      refine lv_iconst (v := (-1 : Int32)) hx hb dX12_inTubs_21 (by decide) ?_
      refine lv_icmp_eq (tgt := 29) hx hb dX12_inTubs_22 (by decide) (fun c3 => ?_) (fun c3 => ?_)
      · have hm := g_t c3 hm
        refine lv_iconst (v := (0 : Int32)) hx hb dX12_inTubs_29 (by decide) ?_
        refine lv_iadd hx hb dX12_inTubs_30 ?_
        refine lv_istore_n (lv' := [(1, .int (x1 + (0 : Int32))), (0, .ref (ad 99)), (2, .int x2)]) hx hb dX12_inTubs_31 rfl hl (by decide) rfl (fun ls hl => ?_)
        refine lv_iinc (v := (x2 + (1 : Int32))) (lv' := [(2, .int (x2 + (1 : Int32))), (1, .int (x1 + (0 : Int32))), (0, .ref (ad 99))]) hx hb dX12_inTubs_32 hl (k := 2) rfl rfl (by decide) rfl (fun ls hl => ?_)
        refine lv_goto (tgt := 4) hx hb dX12_inTubs_35 (by decide) ?_
        exact ih (x1 + (0 : Int32)) (x2 + (1 : Int32)) m H locs ls hI (lv_sub hl [2, 1, 0] rfl) hm hpm
      · have hm := g_f c3 hm
        refine lv_iconst (v := (1 : Int32)) hx hb dX12_inTubs_25 (by decide) ?_
        refine lv_goto (tgt := 30) hx hb dX12_inTubs_26 (by decide) ?_
        refine lv_iadd hx hb dX12_inTubs_30 ?_
        refine lv_istore_n (lv' := [(1, .int (x1 + (1 : Int32))), (0, .ref (ad 99)), (2, .int x2)]) hx hb dX12_inTubs_31 rfl hl (by decide) rfl (fun ls hl => ?_)
        refine lv_iinc (v := (x2 + (1 : Int32))) (lv' := [(2, .int (x2 + (1 : Int32))), (1, .int (x1 + (1 : Int32))), (0, .ref (ad 99))]) hx hb dX12_inTubs_32 hl (k := 2) rfl rfl (by decide) rfl (fun ls hl => ?_)
        refine lv_goto (tgt := 4) hx hb dX12_inTubs_35 (by decide) ?_
        exact ih (x1 + (1 : Int32)) (x2 + (1 : Int32)) m H locs ls hI (lv_sub hl [2, 1, 0] rfl) hm hpm
def fX12_inTubs (N : Nat)  (m : Mem) : Option Int32 := fX12_inTubs_4 N N (0 : Int32) (0 : Int32) m
set_option maxHeartbeats 4000000 in
set_option maxRecDepth 100000 in
theorem ctX12_inTubs {l : Launch} {D : va_G} {ca : Nat → ClassId} {ad : Nat → Nat} (N : Nat)   (hn : HNr ca) (m : Mem) (fin : Int32) (hm : fX12_inTubs N m = some fin) : CI l D ca ad yX12_inTubs cwX12_inTubs rmX12_inTubs [.ref (ad 99)] m fin m := by
  refine start (by decide) (Nat.le_of_ble_eq_true rfl) ?_
  intro p e s mm args below meth c H locs ls X hI hr hl
  have X : CX p s mm args meth c cX12_inTubs 3 RX12 D ca ad (WA ca ad s.heap.size) := X
  have hx := X.1
  have hb := X.2.1
  have hl : lv_has ls 3 [(0, .ref (ad 99))] := hl
  have hm : (fX12_inTubs_4 N N (0 : Int32) (0 : Int32) m) = some fin := hm
  have hpm : m = m := rfl
  refine lv_iconst (v := (0 : Int32)) hx hb dX12_inTubs_0 (by decide) ?_
  refine lv_istore_n (lv' := [(1, .int (0 : Int32)), (0, .ref (ad 99))]) hx hb dX12_inTubs_1 rfl hl (by decide) rfl (fun ls hl => ?_)
  refine lv_iconst (v := (0 : Int32)) hx hb dX12_inTubs_2 (by decide) ?_
  refine lv_istore_n (lv' := [(2, .int (0 : Int32)), (1, .int (0 : Int32)), (0, .ref (ad 99))]) hx hb dX12_inTubs_3 rfl hl (by decide) rfl (fun ls hl => ?_)
  exact tX12_inTubs_4 N hn X hr fin m  N (0 : Int32) (0 : Int32) m H locs ls hI (lv_sub hl [2, 1, 0] rfl) hm hpm
abbrev rmX12_count : Room := { frames := 1, cells := 0, slots := 0, locals := 24 }
abbrev cwX12_count : Cond := .code yX12_count cX12_count 2 (some .int)
theorem cmX12_count : cwX12_count ∈ BIG := (tb8 (List.mem_of_getElem? (i := 201) rfl) rfl)
def fX12_count (N : Nat) (x1 : Int32) (m : Mem) : Option (Int32 × Mem) := if x1 = (0 : Int32) then (some (((mI m 99 0 (0 : Int32)).1 101 0), (mI m 99 0 (0 : Int32)))) else (if x1 = (1 : Int32) then (some (((mI m 99 0 (0 : Int32)).1 101 1), (mI m 99 0 (0 : Int32)))) else (if x1 = (2 : Int32) then (some (((mI m 99 0 (0 : Int32)).1 101 2), (mI m 99 0 (0 : Int32)))) else (if x1 = (3 : Int32) then (some (((mI m 99 0 (0 : Int32)).1 101 3), (mI m 99 0 (0 : Int32)))) else (if x1 = (4 : Int32) then (some (((mI m 99 0 (0 : Int32)).1 101 4), (mI m 99 0 (0 : Int32)))) else (if x1 = (5 : Int32) then (some (((mI m 99 0 (0 : Int32)).1 101 7), (mI m 99 0 (0 : Int32)))) else (if x1 = (6 : Int32) then (some (((mI m 99 0 (0 : Int32)).1 123 0), (mI m 99 0 (0 : Int32)))) else (if x1 = (7 : Int32) then ((fX12_sumOf N 126 (0 : Int32) (mI m 99 0 (0 : Int32))).bind (fun q9 => some (q9, (mI m 99 0 (0 : Int32))))) else (if x1 = (8 : Int32) then ((fX12_inTubs N (mI m 99 0 (0 : Int32))).bind (fun q12 => some (q12, (mI m 99 0 (0 : Int32))))) else (if x1 = (9 : Int32) then ((fX12_sumOf N 131 (0 : Int32) (mI m 99 0 (0 : Int32))).bind (fun q15 => some (q15, (mI m 99 0 (0 : Int32))))) else (if x1 = (10 : Int32) then ((fX12_sumOf N 133 (0 : Int32) (mI m 99 0 (0 : Int32))).bind (fun q18 => some (q18, (mI m 99 0 (0 : Int32))))) else (if x1 = (11 : Int32) then (some (((mI m 99 0 (0 : Int32)).1 125 0), (mI m 99 0 (0 : Int32)))) else (if x1 = (12 : Int32) then (some (((mI m 99 0 (0 : Int32)).1 99 58), (mI m 99 0 (0 : Int32)))) else (if x1 = (13 : Int32) then ((fX12_knownMany  (mI m 99 0 (0 : Int32))).bind (fun q23 => some (q23, (mI m 99 0 (0 : Int32))))) else (if x1 = (14 : Int32) then (some (((mI m 99 0 (0 : Int32)).1 99 51), (mI m 99 0 (0 : Int32)))) else (some ((-1 : Int32), (mI m 99 0 (0 : Int32))))))))))))))))))
set_option maxHeartbeats 4000000 in
set_option maxRecDepth 100000 in
theorem ctX12_count {l : Launch} {D : va_G} {ca : Nat → ClassId} {ad : Nat → Nat} (N : Nat) (x1 : Int32)  (hn : HNr ca) (m : Mem) (fin : (Int32 × Mem)) (hm : fX12_count N x1 m = some fin) : CI l D ca ad yX12_count cwX12_count rmX12_count [.ref (ad 99), .int x1] m fin.1 fin.2 := by
  refine start (by decide) (Nat.le_of_ble_eq_true rfl) ?_
  intro p e s mm args below meth c H locs ls X hI hr hl
  have X : CX p s mm args meth c cX12_count 2 RX12 D ca ad (WA ca ad s.heap.size) := X
  have hx := X.1
  have hb := X.2.1
  have hl : lv_has ls 2 [(0, .ref (ad 99)), (1, .int x1)] := hl
  have hm : (if x1 = (0 : Int32) then (some (((mI m 99 0 (0 : Int32)).1 101 0), (mI m 99 0 (0 : Int32)))) else (if x1 = (1 : Int32) then (some (((mI m 99 0 (0 : Int32)).1 101 1), (mI m 99 0 (0 : Int32)))) else (if x1 = (2 : Int32) then (some (((mI m 99 0 (0 : Int32)).1 101 2), (mI m 99 0 (0 : Int32)))) else (if x1 = (3 : Int32) then (some (((mI m 99 0 (0 : Int32)).1 101 3), (mI m 99 0 (0 : Int32)))) else (if x1 = (4 : Int32) then (some (((mI m 99 0 (0 : Int32)).1 101 4), (mI m 99 0 (0 : Int32)))) else (if x1 = (5 : Int32) then (some (((mI m 99 0 (0 : Int32)).1 101 7), (mI m 99 0 (0 : Int32)))) else (if x1 = (6 : Int32) then (some (((mI m 99 0 (0 : Int32)).1 123 0), (mI m 99 0 (0 : Int32)))) else (if x1 = (7 : Int32) then ((fX12_sumOf N 126 (0 : Int32) (mI m 99 0 (0 : Int32))).bind (fun q9 => some (q9, (mI m 99 0 (0 : Int32))))) else (if x1 = (8 : Int32) then ((fX12_inTubs N (mI m 99 0 (0 : Int32))).bind (fun q12 => some (q12, (mI m 99 0 (0 : Int32))))) else (if x1 = (9 : Int32) then ((fX12_sumOf N 131 (0 : Int32) (mI m 99 0 (0 : Int32))).bind (fun q15 => some (q15, (mI m 99 0 (0 : Int32))))) else (if x1 = (10 : Int32) then ((fX12_sumOf N 133 (0 : Int32) (mI m 99 0 (0 : Int32))).bind (fun q18 => some (q18, (mI m 99 0 (0 : Int32))))) else (if x1 = (11 : Int32) then (some (((mI m 99 0 (0 : Int32)).1 125 0), (mI m 99 0 (0 : Int32)))) else (if x1 = (12 : Int32) then (some (((mI m 99 0 (0 : Int32)).1 99 58), (mI m 99 0 (0 : Int32)))) else (if x1 = (13 : Int32) then ((fX12_knownMany  (mI m 99 0 (0 : Int32))).bind (fun q23 => some (q23, (mI m 99 0 (0 : Int32))))) else (if x1 = (14 : Int32) then (some (((mI m 99 0 (0 : Int32)).1 99 51), (mI m 99 0 (0 : Int32)))) else (some ((-1 : Int32), (mI m 99 0 (0 : Int32))))))))))))))))))) = some fin := hm
  refine lv_aload_n hx hb dX12_count_0 rfl (lv_at hl 0 rfl) ?_
  refine lv_iconst (v := (0 : Int32)) hx hb dX12_count_1 (by decide) ?_
  refine pI X hI fpX12_154 (la_99 hn) dX12_count_2 (fun H locs hI => ?_)
  refine lv_iload_n hx hb dX12_count_5 rfl (lv_at hl 1 rfl) ?_
  by_cases c1 : x1 = (0 : Int32)
  · have hm := g_t c1 hm
    refine lv_tableIn (tgt := 80) hx hb dX12_count_6 (by rw [c1]; decide) (by rw [c1]; decide) (off := 74) (by rw [c1]; decide) (by decide) ?_
    refine lv_aload_n hx hb dX12_count_80 rfl (lv_at hl 0 rfl) ?_
    refine gR X hI fdX12_13 (la_99 hn) rf12_3 dX12_count_81 ?_
    refine lv_iconst (v := (0 : Int32)) hx hb dX12_count_84 (by decide) ?_
    refine aIc (j := 0) X hI (la_101 hn) (by decide) (by decide) dX12_count_85 ?_
    exact rI X hI hr (g_p hm).1 (g_p hm).2 dX12_count_86
  · have hm := g_f c1 hm
    by_cases c2 : x1 = (1 : Int32)
    · have hm := g_t c2 hm
      refine lv_tableIn (tgt := 87) hx hb dX12_count_6 (by rw [c2]; decide) (by rw [c2]; decide) (off := 81) (by rw [c2]; decide) (by decide) ?_
      refine lv_aload_n hx hb dX12_count_87 rfl (lv_at hl 0 rfl) ?_
      refine gR X hI fdX12_13 (la_99 hn) rf12_3 dX12_count_88 ?_
      refine lv_iconst (v := (1 : Int32)) hx hb dX12_count_91 (by decide) ?_
      refine aIc (j := 1) X hI (la_101 hn) (by decide) (by decide) dX12_count_92 ?_
      exact rI X hI hr (g_p hm).1 (g_p hm).2 dX12_count_93
    · have hm := g_f c2 hm
      by_cases c3 : x1 = (2 : Int32)
      · have hm := g_t c3 hm
        refine lv_tableIn (tgt := 94) hx hb dX12_count_6 (by rw [c3]; decide) (by rw [c3]; decide) (off := 88) (by rw [c3]; decide) (by decide) ?_
        refine lv_aload_n hx hb dX12_count_94 rfl (lv_at hl 0 rfl) ?_
        refine gR X hI fdX12_13 (la_99 hn) rf12_3 dX12_count_95 ?_
        refine lv_iconst (v := (2 : Int32)) hx hb dX12_count_98 (by decide) ?_
        refine aIc (j := 2) X hI (la_101 hn) (by decide) (by decide) dX12_count_99 ?_
        exact rI X hI hr (g_p hm).1 (g_p hm).2 dX12_count_100
      · have hm := g_f c3 hm
        by_cases c4 : x1 = (3 : Int32)
        · have hm := g_t c4 hm
          refine lv_tableIn (tgt := 101) hx hb dX12_count_6 (by rw [c4]; decide) (by rw [c4]; decide) (off := 95) (by rw [c4]; decide) (by decide) ?_
          refine lv_aload_n hx hb dX12_count_101 rfl (lv_at hl 0 rfl) ?_
          refine gR X hI fdX12_13 (la_99 hn) rf12_3 dX12_count_102 ?_
          refine lv_iconst (v := (3 : Int32)) hx hb dX12_count_105 (by decide) ?_
          refine aIc (j := 3) X hI (la_101 hn) (by decide) (by decide) dX12_count_106 ?_
          exact rI X hI hr (g_p hm).1 (g_p hm).2 dX12_count_107
        · have hm := g_f c4 hm
          by_cases c5 : x1 = (4 : Int32)
          · have hm := g_t c5 hm
            refine lv_tableIn (tgt := 108) hx hb dX12_count_6 (by rw [c5]; decide) (by rw [c5]; decide) (off := 102) (by rw [c5]; decide) (by decide) ?_
            refine lv_aload_n hx hb dX12_count_108 rfl (lv_at hl 0 rfl) ?_
            refine gR X hI fdX12_13 (la_99 hn) rf12_3 dX12_count_109 ?_
            refine lv_iconst (v := (4 : Int32)) hx hb dX12_count_112 (by decide) ?_
            refine aIc (j := 4) X hI (la_101 hn) (by decide) (by decide) dX12_count_113 ?_
            exact rI X hI hr (g_p hm).1 (g_p hm).2 dX12_count_114
          · have hm := g_f c5 hm
            by_cases c6 : x1 = (5 : Int32)
            · have hm := g_t c6 hm
              refine lv_tableIn (tgt := 115) hx hb dX12_count_6 (by rw [c6]; decide) (by rw [c6]; decide) (off := 109) (by rw [c6]; decide) (by decide) ?_
              refine lv_aload_n hx hb dX12_count_115 rfl (lv_at hl 0 rfl) ?_
              refine gR X hI fdX12_13 (la_99 hn) rf12_3 dX12_count_116 ?_
              refine lv_bipush (v := (7 : Int32)) hx hb dX12_count_119 (by decide) ?_
              refine aIc (j := 7) X hI (la_101 hn) (by decide) (by decide) dX12_count_121 ?_
              exact rI X hI hr (g_p hm).1 (g_p hm).2 dX12_count_122
            · have hm := g_f c6 hm
              by_cases c7 : x1 = (6 : Int32)
              · have hm := g_t c7 hm
                refine lv_tableIn (tgt := 123) hx hb dX12_count_6 (by rw [c7]; decide) (by rw [c7]; decide) (off := 117) (by rw [c7]; decide) (by decide) ?_
                refine lv_aload_n hx hb dX12_count_123 rfl (lv_at hl 0 rfl) ?_
                refine gR X hI fdX12_84 (la_99 hn) rf12_39 dX12_count_124 ?_
                refine lv_iconst (v := (0 : Int32)) hx hb dX12_count_127 (by decide) ?_
                refine aIc (j := 0) X hI (la_123 hn) (by decide) (by decide) dX12_count_128 ?_
                exact rI X hI hr (g_p hm).1 (g_p hm).2 dX12_count_129
              · have hm := g_f c7 hm
                by_cases c8 : x1 = (7 : Int32)
                · have hm := g_t c8 hm
                  refine lv_tableIn (tgt := 130) hx hb dX12_count_6 (by rw [c8]; decide) (by rw [c8]; decide) (off := 124) (by rw [c8]; decide) (by decide) ?_
                  refine lv_aload_n hx hb dX12_count_130 rfl (lv_at hl 0 rfl) ?_
                  refine lv_aload_n hx hb dX12_count_131 rfl (lv_at hl 0 rfl) ?_
                  refine gR X hI fdX12_93 (la_99 hn) rf12_42 dX12_count_132 ?_
                  refine lv_iconst (v := (0 : Int32)) hx hb dX12_count_135 (by decide) ?_
                  obtain ⟨q9, h10, hm⟩ := g_b hm
                  refine backI X hI (runV X hI (ctX12_sumOf N 126 (0 : Int32) (ly_self (la_126 hn)) hn _ _ h10 _) mdX12_435 (la_99 hn) rfl ⟨rfl, rfl⟩ ⟨Nat.le_of_ble_eq_true rfl, Nat.le_of_ble_eq_true rfl⟩ rfl hl.1 rfl (Nat.le_of_ble_eq_true rfl) dX12_count_136) (fun H locs hI => ?_)
                  exact rI X hI hr (g_p hm).1 (g_p hm).2 dX12_count_139
                · have hm := g_f c8 hm
                  by_cases c11 : x1 = (8 : Int32)
                  · have hm := g_t c11 hm
                    refine lv_tableIn (tgt := 140) hx hb dX12_count_6 (by rw [c11]; decide) (by rw [c11]; decide) (off := 134) (by rw [c11]; decide) (by decide) ?_
                    refine lv_aload_n hx hb dX12_count_140 rfl (lv_at hl 0 rfl) ?_
                    obtain ⟨q12, h13, hm⟩ := g_b hm
                    refine backI X hI (runV X hI (ctX12_inTubs N  hn _ _ h13 _) mdX12_500 (la_99 hn) rfl ⟨rfl, rfl⟩ ⟨Nat.le_of_ble_eq_true rfl, Nat.le_of_ble_eq_true rfl⟩ rfl hl.1 rfl (Nat.le_of_ble_eq_true rfl) dX12_count_141) (fun H locs hI => ?_)
                    exact rI X hI hr (g_p hm).1 (g_p hm).2 dX12_count_144
                  · have hm := g_f c11 hm
                    by_cases c14 : x1 = (9 : Int32)
                    · have hm := g_t c14 hm
                      refine lv_tableIn (tgt := 145) hx hb dX12_count_6 (by rw [c14]; decide) (by rw [c14]; decide) (off := 139) (by rw [c14]; decide) (by decide) ?_
                      refine lv_aload_n hx hb dX12_count_145 rfl (lv_at hl 0 rfl) ?_
                      refine lv_aload_n hx hb dX12_count_146 rfl (lv_at hl 0 rfl) ?_
                      refine gR X hI fdX12_108 (la_99 hn) rf12_47 dX12_count_147 ?_
                      refine lv_iconst (v := (0 : Int32)) hx hb dX12_count_150 (by decide) ?_
                      obtain ⟨q15, h16, hm⟩ := g_b hm
                      refine backI X hI (runV X hI (ctX12_sumOf N 131 (0 : Int32) (ly_self (la_131 hn)) hn _ _ h16 _) mdX12_435 (la_99 hn) rfl ⟨rfl, rfl⟩ ⟨Nat.le_of_ble_eq_true rfl, Nat.le_of_ble_eq_true rfl⟩ rfl hl.1 rfl (Nat.le_of_ble_eq_true rfl) dX12_count_151) (fun H locs hI => ?_)
                      exact rI X hI hr (g_p hm).1 (g_p hm).2 dX12_count_154
                    · have hm := g_f c14 hm
                      by_cases c17 : x1 = (10 : Int32)
                      · have hm := g_t c17 hm
                        refine lv_tableIn (tgt := 155) hx hb dX12_count_6 (by rw [c17]; decide) (by rw [c17]; decide) (off := 149) (by rw [c17]; decide) (by decide) ?_
                        refine lv_aload_n hx hb dX12_count_155 rfl (lv_at hl 0 rfl) ?_
                        refine lv_aload_n hx hb dX12_count_156 rfl (lv_at hl 0 rfl) ?_
                        refine gR X hI fdX12_114 (la_99 hn) rf12_49 dX12_count_157 ?_
                        refine lv_iconst (v := (0 : Int32)) hx hb dX12_count_160 (by decide) ?_
                        obtain ⟨q18, h19, hm⟩ := g_b hm
                        refine backI X hI (runV X hI (ctX12_sumOf N 133 (0 : Int32) (ly_self (la_133 hn)) hn _ _ h19 _) mdX12_435 (la_99 hn) rfl ⟨rfl, rfl⟩ ⟨Nat.le_of_ble_eq_true rfl, Nat.le_of_ble_eq_true rfl⟩ rfl hl.1 rfl (Nat.le_of_ble_eq_true rfl) dX12_count_161) (fun H locs hI => ?_)
                        exact rI X hI hr (g_p hm).1 (g_p hm).2 dX12_count_164
                      · have hm := g_f c17 hm
                        by_cases c20 : x1 = (11 : Int32)
                        · have hm := g_t c20 hm
                          refine lv_tableIn (tgt := 165) hx hb dX12_count_6 (by rw [c20]; decide) (by rw [c20]; decide) (off := 159) (by rw [c20]; decide) (by decide) ?_
                          refine lv_aload_n hx hb dX12_count_165 rfl (lv_at hl 0 rfl) ?_
                          refine gR X hI fdX12_90 (la_99 hn) rf12_41 dX12_count_166 ?_
                          refine lv_iconst (v := (0 : Int32)) hx hb dX12_count_169 (by decide) ?_
                          refine aIc (j := 0) X hI (la_125 hn) (by decide) (by decide) dX12_count_170 ?_
                          exact rI X hI hr (g_p hm).1 (g_p hm).2 dX12_count_171
                        · have hm := g_f c20 hm
                          by_cases c21 : x1 = (12 : Int32)
                          · have hm := g_t c21 hm
                            refine lv_tableIn (tgt := 172) hx hb dX12_count_6 (by rw [c21]; decide) (by rw [c21]; decide) (off := 166) (by rw [c21]; decide) (by decide) ?_
                            refine lv_aload_n hx hb dX12_count_172 rfl (lv_at hl 0 rfl) ?_
                            refine gI X hI fdX12_310 (la_99 hn) dX12_count_173 ?_
                            exact rI X hI hr (g_p hm).1 (g_p hm).2 dX12_count_176
                          · have hm := g_f c21 hm
                            by_cases c22 : x1 = (13 : Int32)
                            · have hm := g_t c22 hm
                              refine lv_tableIn (tgt := 177) hx hb dX12_count_6 (by rw [c22]; decide) (by rw [c22]; decide) (off := 171) (by rw [c22]; decide) (by decide) ?_
                              refine lv_aload_n hx hb dX12_count_177 rfl (lv_at hl 0 rfl) ?_
                              obtain ⟨q23, h24, hm⟩ := g_b hm
                              refine backI X hI (runV X hI (ctX12_knownMany   hn _ _ h24 _) mdX12_482 (la_99 hn) rfl ⟨rfl, rfl⟩ ⟨Nat.le_of_ble_eq_true rfl, Nat.le_of_ble_eq_true rfl⟩ rfl hl.1 rfl (Nat.le_of_ble_eq_true rfl) dX12_count_178) (fun H locs hI => ?_)
                              exact rI X hI hr (g_p hm).1 (g_p hm).2 dX12_count_181
                            · have hm := g_f c22 hm
                              by_cases c25 : x1 = (14 : Int32)
                              · have hm := g_t c25 hm
                                refine lv_tableIn (tgt := 182) hx hb dX12_count_6 (by rw [c25]; decide) (by rw [c25]; decide) (off := 176) (by rw [c25]; decide) (by decide) ?_
                                refine lv_aload_n hx hb dX12_count_182 rfl (lv_at hl 0 rfl) ?_
                                refine gI X hI fdX12_317 (la_99 hn) dX12_count_183 ?_
                                exact rI X hI hr (g_p hm).1 (g_p hm).2 dX12_count_186
                              · have hm := g_f c25 hm
                                have ec1 := lv_neT c1 (a := 0) (by decide)
                                have ec2 := lv_neT c2 (a := 1) (by decide)
                                have ec3 := lv_neT c3 (a := 2) (by decide)
                                have ec4 := lv_neT c4 (a := 3) (by decide)
                                have ec5 := lv_neT c5 (a := 4) (by decide)
                                have ec6 := lv_neT c6 (a := 5) (by decide)
                                have ec7 := lv_neT c7 (a := 6) (by decide)
                                have ec8 := lv_neT c8 (a := 7) (by decide)
                                have ec11 := lv_neT c11 (a := 8) (by decide)
                                have ec14 := lv_neT c14 (a := 9) (by decide)
                                have ec17 := lv_neT c17 (a := 10) (by decide)
                                have ec20 := lv_neT c20 (a := 11) (by decide)
                                have ec21 := lv_neT c21 (a := 12) (by decide)
                                have ec22 := lv_neT c22 (a := 13) (by decide)
                                have ec25 := lv_neT c25 (a := 14) (by decide)
                                refine lv_tableOut (tgt := 187) hx hb dX12_count_6 (by omega) (by decide) ?_
                                refine lv_iconst (v := (-1 : Int32)) hx hb dX12_count_187 (by decide) ?_
                                exact rI X hI hr (g_p hm).1 (g_p hm).2 dX12_count_188
