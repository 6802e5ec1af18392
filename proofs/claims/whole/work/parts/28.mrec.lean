abbrev rmG (fr lo : Nat) : Room := { frames := fr, cells := 0, slots := 0, locals := lo }
def RCH (l : Launch) (D : va_G) (ca : Nat → ClassId) (ad : Nat → Nat) (fr lo : Nat) (rc : Nat → Mem → Option Mem) : Prop := (∀ m m' : Mem, rc 0 m = some m' → CV l D ca ad yX12_expression cwX12_expression (rmG fr lo) [.ref (ad 99)] m m') ∧ (∀ m m' : Mem, rc 1 m = some m' → CV l D ca ad yX12_conjunction cwX12_conjunction (rmG fr lo) [.ref (ad 99)] m m') ∧ (∀ m m' : Mem, rc 2 m = some m' → CV l D ca ad yX12_negation cwX12_negation (rmG fr lo) [.ref (ad 99)] m m') ∧ (∀ m m' : Mem, rc 3 m = some m' → CV l D ca ad yX12_sum cwX12_sum (rmG fr lo) [.ref (ad 99)] m m') ∧ (∀ m m' : Mem, rc 4 m = some m' → CV l D ca ad yX12_product cwX12_product (rmG fr lo) [.ref (ad 99)] m m') ∧ (∀ m m' : Mem, rc 5 m = some m' → CV l D ca ad yX12_primary cwX12_primary (rmG fr lo) [.ref (ad 99)] m m')
def RCM (l : Launch) (D : va_G) (ca : Nat → ClassId) (ad : Nat → Nat) (fr lo : Nat) (rc : Int32 → Int32 → Int32 → Int32 → Mem → Option Mem) : Prop := ∀ (a b c d : Int32) (m m' : Mem), rc a b c d m = some m' → CV l D ca ad yX12_matches cwX12_matches (rmG fr lo) [.ref (ad 99), .int a, .int b, .int c, .int d] m m'
def fX12_expression_4 (N : Nat) (rc : Nat → Mem → Option Mem) : Nat → Mem → Option Mem
  | 0, _ => none
  | n + 1, m => (fX12_isWord (11 : Int32) m).bind (fun q3 => if q3 = 0 then (some m) else ((fX12_knot  m).bind (fun q6 => (fX12_goOn N q6).bind (fun q8 => (rc 1 q8).bind (fun q10 => (fX12_puts (2 : Int32) (262 : Int32) q10).bind (fun q12 => fX12_expression_4 N rc n q12))))))
set_option maxHeartbeats 4000000 in
set_option maxRecDepth 100000 in
theorem tX12_expression_4 (N : Nat) (rc : Nat → Mem → Option Mem) {l : Launch} {D : va_G} {ca : Nat → ClassId} {ad : Nat → Nat} {p : Program} {e : Env} {s : State} {mm : MethodId} {args : Array Value} {below : List Frame} {meth : Method} {c : Code}  (hn : HNr ca) (X : CX p s mm args meth c cX12_expression 1 RX12 D ca ad (WA ca ad s.heap.size)) (hr : meth.sig.returnType = none) (fin : Mem) (fr lo : Nat) (hfr : 10 ≤ fr) (hlo : 250 ≤ lo) (hrc : RCH l D ca ad fr lo rc)  : ∀ (n : Nat)  (m : Mem) (H : Heap) (locs : List Loc) (ls : Array Slot), IW D ca ad (WA ca ad s.heap.size) s m H locs → lv_has ls 1 [(0, .ref (ad 99))] → fX12_expression_4 N rc n m = some fin → W p l e (rmG (fr + 1) (lo + 40)) s mm args below meth c H locs 0 0 (MQ below (QV D ca ad s.heap.size fin) args s 0 0 (WA ca ad s.heap.size)) (F0 mm 4 ls []) := by
  have hx := X.1
  have hb := X.2.1
  intro n
  induction n with
  | zero => intro m H locs ls hI hl hm
            exact absurd hm (by intro q; cases q)
  | succ n ih =>
    intro m H locs ls hI hl hm
    have hm : ((fX12_isWord (11 : Int32) m).bind (fun q3 => if q3 = 0 then (some m) else ((fX12_knot  m).bind (fun q6 => (fX12_goOn N q6).bind (fun q8 => (rc 1 q8).bind (fun q10 => (fX12_puts (2 : Int32) (262 : Int32) q10).bind (fun q12 => fX12_expression_4 N rc n q12))))))) = some fin := hm
    refine lv_aload_n hx hb dX12_expression_4 rfl (lv_at hl 0 rfl) ?_
    refine lv_bipush (v := (11 : Int32)) hx hb dX12_expression_5 (by decide) ?_
    obtain ⟨q3, h4, hm⟩ := g_b hm
    refine backI X hI (runV X hI (ctX12_isWord (11 : Int32)  hn _ _ h4 _) mdX12_276 (la_99 hn) rfl ⟨rfl, rfl⟩ ⟨(show 0 + 1 ≤ fr + 1 by omega), (show 8 + (2 + 11) + 0 ≤ lo + 40 by omega)⟩ rfl hl.1 rfl (Nat.le_of_ble_eq_true rfl) dX12_expression_7) (fun H locs hI => ?_)
    refine lv_if_eq (tgt := 36) hx hb dX12_expression_10 (by decide) (fun c5 => ?_) (fun c5 => ?_)
    · have hm := g_t c5 hm
      exact rV X hI hr (g_1 hm) dX12_expression_36
    · have hm := g_f c5 hm
      refine lv_aload_n hx hb dX12_expression_13 rfl (lv_at hl 0 rfl) ?_
      obtain ⟨q6, h7, hm⟩ := g_b hm
      refine backV X hI (runV X hI (ctX12_knot   hn _ _ h7 _) mdX12_279 (la_99 hn) rfl ⟨rfl, rfl⟩ ⟨(show 1 + 1 ≤ fr + 1 by omega), (show 8 + (1 + 11) + 21 ≤ lo + 40 by omega)⟩ rfl hl.1 rfl (Nat.le_of_ble_eq_true rfl) dX12_expression_14) (fun H locs hI => ?_)
      refine lv_aload_n hx hb dX12_expression_17 rfl (lv_at hl 0 rfl) ?_
      obtain ⟨q8, h9, hm⟩ := g_b hm
      refine backV X hI (runV X hI (ctX12_goOn N  hn _ _ h9 _) mdX12_232 (la_99 hn) rfl ⟨rfl, rfl⟩ ⟨(show 6 + 1 ≤ fr + 1 by omega), (show 8 + (1 + 11) + 134 ≤ lo + 40 by omega)⟩ rfl hl.1 rfl (Nat.le_of_ble_eq_true rfl) dX12_expression_18) (fun H locs hI => ?_)
      refine lv_aload_n hx hb dX12_expression_21 rfl (lv_at hl 0 rfl) ?_
      obtain ⟨q10, h11, hm⟩ := g_b hm
      refine backV X hI (runV X hI (hrc.2.1 _ _ h11 _) mdX12_273 (la_99 hn) rfl ⟨rfl, rfl⟩ ⟨Nat.le_refl _, (show 8 + (1 + 11) + lo ≤ lo + 40 by omega)⟩ rfl hl.1 rfl (Nat.le_of_ble_eq_true rfl) dX12_expression_22) (fun H locs hI => ?_)
      refine lv_aload_n hx hb dX12_expression_25 rfl (lv_at hl 0 rfl) ?_
      refine lv_iconst (v := (2 : Int32)) hx hb dX12_expression_26 (by decide) ?_
      refine lv_sipush (v := (262 : Int32)) hx hb dX12_expression_27 (by decide) ?_
      obtain ⟨q12, h13, hm⟩ := g_b hm
      refine backV X hI (runV X hI (ctX12_puts (2 : Int32) (262 : Int32)  hn _ _ h13 _) mdX12_282 (la_99 hn) rfl ⟨rfl, rfl⟩ ⟨(show 1 + 1 ≤ fr + 1 by omega), (show 8 + (3 + 11) + 22 ≤ lo + 40 by omega)⟩ rfl hl.1 rfl (Nat.le_of_ble_eq_true rfl) dX12_expression_30) (fun H locs hI => ?_)
      refine lv_goto (tgt := 4) hx hb dX12_expression_33 (by decide) ?_
      exact ih q12 H locs ls hI (lv_sub hl [0] rfl) hm
def fX12_expression (N : Nat) (rc : Nat → Mem → Option Mem)  (m : Mem) : Option Mem := (rc 1 m).bind (fun q1 => fX12_expression_4 N rc N q1)
set_option maxHeartbeats 4000000 in
set_option maxRecDepth 100000 in
theorem ctX12_expression {l : Launch} {D : va_G} {ca : Nat → ClassId} {ad : Nat → Nat} (N : Nat) (rc : Nat → Mem → Option Mem)   (hn : HNr ca) (m : Mem) (fin : Mem) (fr lo : Nat) (hfr : 10 ≤ fr) (hlo : 250 ≤ lo) (hrc : RCH l D ca ad fr lo rc) (hm : fX12_expression N rc m = some fin) : CV l D ca ad yX12_expression cwX12_expression (rmG (fr + 1) (lo + 40)) [.ref (ad 99)] m fin := by
  refine start (by decide) (Nat.le_of_ble_eq_true rfl) ?_
  intro p e s mm args below meth c H locs ls X hI hr hl
  have X : CX p s mm args meth c cX12_expression 1 RX12 D ca ad (WA ca ad s.heap.size) := X
  have hx := X.1
  have hb := X.2.1
  have hl : lv_has ls 1 [(0, .ref (ad 99))] := hl
  have hm : ((rc 1 m).bind (fun q1 => fX12_expression_4 N rc N q1)) = some fin := hm
  refine lv_aload_n hx hb dX12_expression_0 rfl (lv_at hl 0 rfl) ?_
  obtain ⟨q1, h2, hm⟩ := g_b hm
  refine backV X hI (runV X hI (hrc.2.1 _ _ h2 _) mdX12_273 (la_99 hn) rfl ⟨rfl, rfl⟩ ⟨Nat.le_refl _, (show 8 + (1 + 11) + lo ≤ lo + 40 by omega)⟩ rfl hl.1 rfl (Nat.le_of_ble_eq_true rfl) dX12_expression_1) (fun H locs hI => ?_)
  exact tX12_expression_4 N rc hn X hr fin fr lo hfr hlo hrc  N q1 H locs ls hI (lv_sub hl [0] rfl) hm

def fX12_conjunction_4 (N : Nat) (rc : Nat → Mem → Option Mem) : Nat → Mem → Option Mem
  | 0, _ => none
  | n + 1, m => (fX12_isWord (12 : Int32) m).bind (fun q3 => if q3 = 0 then (some m) else ((fX12_knot  m).bind (fun q6 => (fX12_goOn N q6).bind (fun q8 => (rc 2 q8).bind (fun q10 => (fX12_puts (2 : Int32) (261 : Int32) q10).bind (fun q12 => fX12_conjunction_4 N rc n q12))))))
set_option maxHeartbeats 4000000 in
set_option maxRecDepth 100000 in
theorem tX12_conjunction_4 (N : Nat) (rc : Nat → Mem → Option Mem) {l : Launch} {D : va_G} {ca : Nat → ClassId} {ad : Nat → Nat} {p : Program} {e : Env} {s : State} {mm : MethodId} {args : Array Value} {below : List Frame} {meth : Method} {c : Code}  (hn : HNr ca) (X : CX p s mm args meth c cX12_conjunction 1 RX12 D ca ad (WA ca ad s.heap.size)) (hr : meth.sig.returnType = none) (fin : Mem) (fr lo : Nat) (hfr : 10 ≤ fr) (hlo : 250 ≤ lo) (hrc : RCH l D ca ad fr lo rc)  : ∀ (n : Nat)  (m : Mem) (H : Heap) (locs : List Loc) (ls : Array Slot), IW D ca ad (WA ca ad s.heap.size) s m H locs → lv_has ls 1 [(0, .ref (ad 99))] → fX12_conjunction_4 N rc n m = some fin → W p l e (rmG (fr + 1) (lo + 40)) s mm args below meth c H locs 0 0 (MQ below (QV D ca ad s.heap.size fin) args s 0 0 (WA ca ad s.heap.size)) (F0 mm 4 ls []) := by
  have hx := X.1
  have hb := X.2.1
  intro n
  induction n with
  | zero => intro m H locs ls hI hl hm
            exact absurd hm (by intro q; cases q)
  | succ n ih =>
    intro m H locs ls hI hl hm
    have hm : ((fX12_isWord (12 : Int32) m).bind (fun q3 => if q3 = 0 then (some m) else ((fX12_knot  m).bind (fun q6 => (fX12_goOn N q6).bind (fun q8 => (rc 2 q8).bind (fun q10 => (fX12_puts (2 : Int32) (261 : Int32) q10).bind (fun q12 => fX12_conjunction_4 N rc n q12))))))) = some fin := hm
    refine lv_aload_n hx hb dX12_conjunction_4 rfl (lv_at hl 0 rfl) ?_
    refine lv_bipush (v := (12 : Int32)) hx hb dX12_conjunction_5 (by decide) ?_
    obtain ⟨q3, h4, hm⟩ := g_b hm
    refine backI X hI (runV X hI (ctX12_isWord (12 : Int32)  hn _ _ h4 _) mdX12_276 (la_99 hn) rfl ⟨rfl, rfl⟩ ⟨(show 0 + 1 ≤ fr + 1 by omega), (show 8 + (2 + 11) + 0 ≤ lo + 40 by omega)⟩ rfl hl.1 rfl (Nat.le_of_ble_eq_true rfl) dX12_conjunction_7) (fun H locs hI => ?_)
    refine lv_if_eq (tgt := 36) hx hb dX12_conjunction_10 (by decide) (fun c5 => ?_) (fun c5 => ?_)
    · have hm := g_t c5 hm
      exact rV X hI hr (g_1 hm) dX12_conjunction_36
    · have hm := g_f c5 hm
      refine lv_aload_n hx hb dX12_conjunction_13 rfl (lv_at hl 0 rfl) ?_
      obtain ⟨q6, h7, hm⟩ := g_b hm
      refine backV X hI (runV X hI (ctX12_knot   hn _ _ h7 _) mdX12_279 (la_99 hn) rfl ⟨rfl, rfl⟩ ⟨(show 1 + 1 ≤ fr + 1 by omega), (show 8 + (1 + 11) + 21 ≤ lo + 40 by omega)⟩ rfl hl.1 rfl (Nat.le_of_ble_eq_true rfl) dX12_conjunction_14) (fun H locs hI => ?_)
      refine lv_aload_n hx hb dX12_conjunction_17 rfl (lv_at hl 0 rfl) ?_
      obtain ⟨q8, h9, hm⟩ := g_b hm
      refine backV X hI (runV X hI (ctX12_goOn N  hn _ _ h9 _) mdX12_232 (la_99 hn) rfl ⟨rfl, rfl⟩ ⟨(show 6 + 1 ≤ fr + 1 by omega), (show 8 + (1 + 11) + 134 ≤ lo + 40 by omega)⟩ rfl hl.1 rfl (Nat.le_of_ble_eq_true rfl) dX12_conjunction_18) (fun H locs hI => ?_)
      refine lv_aload_n hx hb dX12_conjunction_21 rfl (lv_at hl 0 rfl) ?_
      obtain ⟨q10, h11, hm⟩ := g_b hm
      refine backV X hI (runV X hI (hrc.2.2.1 _ _ h11 _) mdX12_285 (la_99 hn) rfl ⟨rfl, rfl⟩ ⟨Nat.le_refl _, (show 8 + (2 + 11) + lo ≤ lo + 40 by omega)⟩ rfl hl.1 rfl (Nat.le_of_ble_eq_true rfl) dX12_conjunction_22) (fun H locs hI => ?_)
      refine lv_aload_n hx hb dX12_conjunction_25 rfl (lv_at hl 0 rfl) ?_
      refine lv_iconst (v := (2 : Int32)) hx hb dX12_conjunction_26 (by decide) ?_
      refine lv_sipush (v := (261 : Int32)) hx hb dX12_conjunction_27 (by decide) ?_
      obtain ⟨q12, h13, hm⟩ := g_b hm
      refine backV X hI (runV X hI (ctX12_puts (2 : Int32) (261 : Int32)  hn _ _ h13 _) mdX12_282 (la_99 hn) rfl ⟨rfl, rfl⟩ ⟨(show 1 + 1 ≤ fr + 1 by omega), (show 8 + (3 + 11) + 22 ≤ lo + 40 by omega)⟩ rfl hl.1 rfl (Nat.le_of_ble_eq_true rfl) dX12_conjunction_30) (fun H locs hI => ?_)
      refine lv_goto (tgt := 4) hx hb dX12_conjunction_33 (by decide) ?_
      exact ih q12 H locs ls hI (lv_sub hl [0] rfl) hm
def fX12_conjunction (N : Nat) (rc : Nat → Mem → Option Mem)  (m : Mem) : Option Mem := (rc 2 m).bind (fun q1 => fX12_conjunction_4 N rc N q1)
set_option maxHeartbeats 4000000 in
set_option maxRecDepth 100000 in
theorem ctX12_conjunction {l : Launch} {D : va_G} {ca : Nat → ClassId} {ad : Nat → Nat} (N : Nat) (rc : Nat → Mem → Option Mem)   (hn : HNr ca) (m : Mem) (fin : Mem) (fr lo : Nat) (hfr : 10 ≤ fr) (hlo : 250 ≤ lo) (hrc : RCH l D ca ad fr lo rc) (hm : fX12_conjunction N rc m = some fin) : CV l D ca ad yX12_conjunction cwX12_conjunction (rmG (fr + 1) (lo + 40)) [.ref (ad 99)] m fin := by
  refine start (by decide) (Nat.le_of_ble_eq_true rfl) ?_
  intro p e s mm args below meth c H locs ls X hI hr hl
  have X : CX p s mm args meth c cX12_conjunction 1 RX12 D ca ad (WA ca ad s.heap.size) := X
  have hx := X.1
  have hb := X.2.1
  have hl : lv_has ls 1 [(0, .ref (ad 99))] := hl
  have hm : ((rc 2 m).bind (fun q1 => fX12_conjunction_4 N rc N q1)) = some fin := hm
  refine lv_aload_n hx hb dX12_conjunction_0 rfl (lv_at hl 0 rfl) ?_
  obtain ⟨q1, h2, hm⟩ := g_b hm
  refine backV X hI (runV X hI (hrc.2.2.1 _ _ h2 _) mdX12_285 (la_99 hn) rfl ⟨rfl, rfl⟩ ⟨Nat.le_refl _, (show 8 + (2 + 11) + lo ≤ lo + 40 by omega)⟩ rfl hl.1 rfl (Nat.le_of_ble_eq_true rfl) dX12_conjunction_1) (fun H locs hI => ?_)
  exact tX12_conjunction_4 N rc hn X hr fin fr lo hfr hlo hrc  N q1 H locs ls hI (lv_sub hl [0] rfl) hm

def fX12_negation_87 (N : Nat) (rc : Nat → Mem → Option Mem)  (m : Mem) : Option Mem := (fX12_knot  m).bind (fun q9 => (fX12_goOn N q9).bind (fun q11 => (rc 3 q11).bind (fun q13 => (fX12_puts (2 : Int32) (m.1 99 29) q13).bind (fun q15 => some q15))))
set_option maxHeartbeats 4000000 in
set_option maxRecDepth 100000 in
theorem tX12_negation_87 (N : Nat) (rc : Nat → Mem → Option Mem) {l : Launch} {D : va_G} {ca : Nat → ClassId} {ad : Nat → Nat} {p : Program} {e : Env} {s : State} {mm : MethodId} {args : Array Value} {below : List Frame} {meth : Method} {c : Code}  (hn : HNr ca) (X : CX p s mm args meth c cX12_negation 2 RX12 D ca ad (WA ca ad s.heap.size)) (hr : meth.sig.returnType = none) (fin : Mem) (fr lo : Nat) (hfr : 10 ≤ fr) (hlo : 250 ≤ lo) (hrc : RCH l D ca ad fr lo rc)  : ∀  (m : Mem) (H : Heap) (locs : List Loc) (ls : Array Slot), IW D ca ad (WA ca ad s.heap.size) s m H locs → lv_has ls 2 [(0, .ref (ad 99))] → fX12_negation_87 N rc m = some fin → W p l e (rmG (fr + 1) (lo + 40)) s mm args below meth c H locs 0 0 (MQ below (QV D ca ad s.heap.size fin) args s 0 0 (WA ca ad s.heap.size)) (F0 mm 87 ls []) := by
  have hx := X.1
  have hb := X.2.1
  intro m H locs ls hI hl hm
  have hm : ((fX12_knot  m).bind (fun q9 => (fX12_goOn N q9).bind (fun q11 => (rc 3 q11).bind (fun q13 => (fX12_puts (2 : Int32) (m.1 99 29) q13).bind (fun q15 => some q15))))) = some fin := hm
  refine lv_aload_n hx hb dX12_negation_87 rfl (lv_at hl 0 rfl) ?_
  refine gI X hI fdX12_183 (la_99 hn) dX12_negation_88 ?_
  refine lv_istore_n (lv' := [(1, .int (m.1 99 29)), (0, .ref (ad 99))]) hx hb dX12_negation_91 rfl hl (by decide) rfl (fun ls hl => ?_)
  refine lv_aload_n hx hb dX12_negation_92 rfl (lv_at hl 1 rfl) ?_
  obtain ⟨q9, h10, hm⟩ := g_b hm
  refine backV X hI (runV X hI (ctX12_knot   hn _ _ h10 _) mdX12_279 (la_99 hn) rfl ⟨rfl, rfl⟩ ⟨(show 1 + 1 ≤ fr + 1 by omega), (show 8 + (1 + 11) + 21 ≤ lo + 40 by omega)⟩ rfl hl.1 rfl (Nat.le_of_ble_eq_true rfl) dX12_negation_93) (fun H locs hI => ?_)
  refine lv_aload_n hx hb dX12_negation_96 rfl (lv_at hl 1 rfl) ?_
  obtain ⟨q11, h12, hm⟩ := g_b hm
  refine backV X hI (runV X hI (ctX12_goOn N  hn _ _ h12 _) mdX12_232 (la_99 hn) rfl ⟨rfl, rfl⟩ ⟨(show 6 + 1 ≤ fr + 1 by omega), (show 8 + (1 + 11) + 134 ≤ lo + 40 by omega)⟩ rfl hl.1 rfl (Nat.le_of_ble_eq_true rfl) dX12_negation_97) (fun H locs hI => ?_)
  refine lv_aload_n hx hb dX12_negation_100 rfl (lv_at hl 1 rfl) ?_
  obtain ⟨q13, h14, hm⟩ := g_b hm
  refine backV X hI (runV X hI (hrc.2.2.2.1 _ _ h14 _) mdX12_288 (la_99 hn) rfl ⟨rfl, rfl⟩ ⟨Nat.le_refl _, (show 8 + (2 + 11) + lo ≤ lo + 40 by omega)⟩ rfl hl.1 rfl (Nat.le_of_ble_eq_true rfl) dX12_negation_101) (fun H locs hI => ?_)
  refine lv_aload_n hx hb dX12_negation_104 rfl (lv_at hl 1 rfl) ?_
  refine lv_iconst (v := (2 : Int32)) hx hb dX12_negation_105 (by decide) ?_
  refine lv_iload_n hx hb dX12_negation_106 rfl (lv_at hl 0 rfl) ?_
  obtain ⟨q15, h16, hm⟩ := g_b hm
  refine backV X hI (runV X hI (ctX12_puts (2 : Int32) (m.1 99 29)  hn _ _ h16 _) mdX12_282 (la_99 hn) rfl ⟨rfl, rfl⟩ ⟨(show 1 + 1 ≤ fr + 1 by omega), (show 8 + (3 + 11) + 22 ≤ lo + 40 by omega)⟩ rfl hl.1 rfl (Nat.le_of_ble_eq_true rfl) dX12_negation_107) (fun H locs hI => ?_)
  exact rV X hI hr (g_1 hm) dX12_negation_110
def fX12_negation (N : Nat) (rc : Nat → Mem → Option Mem)  (m : Mem) : Option Mem := (fX12_isWord (13 : Int32) m).bind (fun q1 => if q1 = 0 then ((rc 3 m).bind (fun q4 => if (q4.1 99 30) = 0 then (if (q4.1 99 28) = (3 : Int32) then (if (q4.1 99 29) = (60 : Int32) then (fX12_negation_87 N rc q4) else (if (q4.1 99 29) = (62 : Int32) then (fX12_negation_87 N rc q4) else (if (q4.1 99 29) = (61 : Int32) then (fX12_negation_87 N rc q4) else (if (256 : Int32) ≤ (q4.1 99 29) then (fX12_negation_87 N rc q4) else (some q4))))) else (some q4)) else (some q4))) else ((fX12_knot  m).bind (fun q20 => (fX12_goOn N q20).bind (fun q22 => (rc 2 q22).bind (fun q24 => (fX12_puts (2 : Int32) (260 : Int32) q24).bind (fun q26 => some q26))))))
set_option maxHeartbeats 4000000 in
set_option maxRecDepth 100000 in
theorem ctX12_negation {l : Launch} {D : va_G} {ca : Nat → ClassId} {ad : Nat → Nat} (N : Nat) (rc : Nat → Mem → Option Mem)   (hn : HNr ca) (m : Mem) (fin : Mem) (fr lo : Nat) (hfr : 10 ≤ fr) (hlo : 250 ≤ lo) (hrc : RCH l D ca ad fr lo rc) (hm : fX12_negation N rc m = some fin) : CV l D ca ad yX12_negation cwX12_negation (rmG (fr + 1) (lo + 40)) [.ref (ad 99)] m fin := by
  refine start (by decide) (Nat.le_of_ble_eq_true rfl) ?_
  intro p e s mm args below meth c H locs ls X hI hr hl
  have X : CX p s mm args meth c cX12_negation 2 RX12 D ca ad (WA ca ad s.heap.size) := X
  have hx := X.1
  have hb := X.2.1
  have hl : lv_has ls 2 [(0, .ref (ad 99))] := hl
  have hm : ((fX12_isWord (13 : Int32) m).bind (fun q1 => if q1 = 0 then ((rc 3 m).bind (fun q4 => if (q4.1 99 30) = 0 then (if (q4.1 99 28) = (3 : Int32) then (if (q4.1 99 29) = (60 : Int32) then (fX12_negation_87 N rc q4) else (if (q4.1 99 29) = (62 : Int32) then (fX12_negation_87 N rc q4) else (if (q4.1 99 29) = (61 : Int32) then (fX12_negation_87 N rc q4) else (if (256 : Int32) ≤ (q4.1 99 29) then (fX12_negation_87 N rc q4) else (some q4))))) else (some q4)) else (some q4))) else ((fX12_knot  m).bind (fun q20 => (fX12_goOn N q20).bind (fun q22 => (rc 2 q22).bind (fun q24 => (fX12_puts (2 : Int32) (260 : Int32) q24).bind (fun q26 => some q26))))))) = some fin := hm
  refine lv_aload_n hx hb dX12_negation_0 rfl (lv_at hl 0 rfl) ?_
  refine lv_bipush (v := (13 : Int32)) hx hb dX12_negation_1 (by decide) ?_
  obtain ⟨q1, h2, hm⟩ := g_b hm
  refine backI X hI (runV X hI (ctX12_isWord (13 : Int32)  hn _ _ h2 _) mdX12_276 (la_99 hn) rfl ⟨rfl, rfl⟩ ⟨(show 0 + 1 ≤ fr + 1 by omega), (show 8 + (2 + 11) + 0 ≤ lo + 40 by omega)⟩ rfl hl.1 rfl (Nat.le_of_ble_eq_true rfl) dX12_negation_3) (fun H locs hI => ?_)
  refine lv_if_eq (tgt := 30) hx hb dX12_negation_6 (by decide) (fun c3 => ?_) (fun c3 => ?_)
  · have hm := g_t c3 hm
    refine lv_aload_n hx hb dX12_negation_30 rfl (lv_at hl 0 rfl) ?_
    obtain ⟨q4, h5, hm⟩ := g_b hm
    refine backV X hI (runV X hI (hrc.2.2.2.1 _ _ h5 _) mdX12_288 (la_99 hn) rfl ⟨rfl, rfl⟩ ⟨Nat.le_refl _, (show 8 + (2 + 11) + lo ≤ lo + 40 by omega)⟩ rfl hl.1 rfl (Nat.le_of_ble_eq_true rfl) dX12_negation_31) (fun H locs hI => ?_)
    refine lv_aload_n hx hb dX12_negation_34 rfl (lv_at hl 0 rfl) ?_
    refine gI X hI fdX12_208 (la_99 hn) dX12_negation_35 ?_
    refine lv_if_ne (tgt := 86) hx hb dX12_negation_38 (by decide) (fun c6 => ?_) (fun c6 => ?_)
    · have hm := g_f c6 hm
      exact rV X hI hr (g_1 hm) dX12_negation_86
    · have hm := g_t c6 hm
      refine lv_aload_n hx hb dX12_negation_41 rfl (lv_at hl 0 rfl) ?_
      refine gI X hI fdX12_173 (la_99 hn) dX12_negation_42 ?_
      refine lv_iconst (v := (3 : Int32)) hx hb dX12_negation_45 (by decide) ?_
      refine lv_icmp_ne (tgt := 86) hx hb dX12_negation_46 (by decide) (fun c7 => ?_) (fun c7 => ?_)
      · have hm := g_f c7 hm
        exact rV X hI hr (g_1 hm) dX12_negation_86
      · have hm := g_t c7 hm
        refine lv_aload_n hx hb dX12_negation_49 rfl (lv_at hl 0 rfl) ?_
        refine gI X hI fdX12_183 (la_99 hn) dX12_negation_50 ?_
        refine lv_bipush (v := (60 : Int32)) hx hb dX12_negation_53 (by decide) ?_
        refine lv_icmp_eq (tgt := 87) hx hb dX12_negation_55 (by decide) (fun c8 => ?_) (fun c8 => ?_)
        · have hm := g_t c8 hm
          exact tX12_negation_87 N rc hn X hr fin fr lo hfr hlo hrc  q4 H locs ls hI (lv_sub hl [0] rfl) hm
        · have hm := g_f c8 hm
          refine lv_aload_n hx hb dX12_negation_58 rfl (lv_at hl 0 rfl) ?_
          refine gI X hI fdX12_183 (la_99 hn) dX12_negation_59 ?_
          refine lv_bipush (v := (62 : Int32)) hx hb dX12_negation_62 (by decide) ?_
          refine lv_icmp_eq (tgt := 87) hx hb dX12_negation_64 (by decide) (fun c17 => ?_) (fun c17 => ?_)
          · have hm := g_t c17 hm
            exact tX12_negation_87 N rc hn X hr fin fr lo hfr hlo hrc  q4 H locs ls hI (lv_sub hl [0] rfl) hm
          · have hm := g_f c17 hm
            refine lv_aload_n hx hb dX12_negation_67 rfl (lv_at hl 0 rfl) ?_
            refine gI X hI fdX12_183 (la_99 hn) dX12_negation_68 ?_
            refine lv_bipush (v := (61 : Int32)) hx hb dX12_negation_71 (by decide) ?_
            refine lv_icmp_eq (tgt := 87) hx hb dX12_negation_73 (by decide) (fun c18 => ?_) (fun c18 => ?_)
            · have hm := g_t c18 hm
              exact tX12_negation_87 N rc hn X hr fin fr lo hfr hlo hrc  q4 H locs ls hI (lv_sub hl [0] rfl) hm
            · have hm := g_f c18 hm
              refine lv_aload_n hx hb dX12_negation_76 rfl (lv_at hl 0 rfl) ?_
              refine gI X hI fdX12_183 (la_99 hn) dX12_negation_77 ?_
              refine lv_sipush (v := (256 : Int32)) hx hb dX12_negation_80 (by decide) ?_
              refine lv_icmp_ge (tgt := 87) hx hb dX12_negation_83 (by decide) (fun c19 => ?_) (fun c19 => ?_)
              · have hm := g_t c19 hm
                exact tX12_negation_87 N rc hn X hr fin fr lo hfr hlo hrc  q4 H locs ls hI (lv_sub hl [0] rfl) hm
              · have hm := g_f c19 hm
                exact rV X hI hr (g_1 hm) dX12_negation_86
  · have hm := g_f c3 hm
    refine lv_aload_n hx hb dX12_negation_9 rfl (lv_at hl 0 rfl) ?_
    obtain ⟨q20, h21, hm⟩ := g_b hm
    refine backV X hI (runV X hI (ctX12_knot   hn _ _ h21 _) mdX12_279 (la_99 hn) rfl ⟨rfl, rfl⟩ ⟨(show 1 + 1 ≤ fr + 1 by omega), (show 8 + (1 + 11) + 21 ≤ lo + 40 by omega)⟩ rfl hl.1 rfl (Nat.le_of_ble_eq_true rfl) dX12_negation_10) (fun H locs hI => ?_)
    refine lv_aload_n hx hb dX12_negation_13 rfl (lv_at hl 0 rfl) ?_
    obtain ⟨q22, h23, hm⟩ := g_b hm
    refine backV X hI (runV X hI (ctX12_goOn N  hn _ _ h23 _) mdX12_232 (la_99 hn) rfl ⟨rfl, rfl⟩ ⟨(show 6 + 1 ≤ fr + 1 by omega), (show 8 + (1 + 11) + 134 ≤ lo + 40 by omega)⟩ rfl hl.1 rfl (Nat.le_of_ble_eq_true rfl) dX12_negation_14) (fun H locs hI => ?_)
    refine lv_aload_n hx hb dX12_negation_17 rfl (lv_at hl 0 rfl) ?_
    obtain ⟨q24, h25, hm⟩ := g_b hm
    refine backV X hI (runV X hI (hrc.2.2.1 _ _ h25 _) mdX12_285 (la_99 hn) rfl ⟨rfl, rfl⟩ ⟨Nat.le_refl _, (show 8 + (2 + 11) + lo ≤ lo + 40 by omega)⟩ rfl hl.1 rfl (Nat.le_of_ble_eq_true rfl) dX12_negation_18) (fun H locs hI => ?_)
    refine lv_aload_n hx hb dX12_negation_21 rfl (lv_at hl 0 rfl) ?_
    refine lv_iconst (v := (2 : Int32)) hx hb dX12_negation_22 (by decide) ?_
    refine lv_sipush (v := (260 : Int32)) hx hb dX12_negation_23 (by decide) ?_
    obtain ⟨q26, h27, hm⟩ := g_b hm
    refine backV X hI (runV X hI (ctX12_puts (2 : Int32) (260 : Int32)  hn _ _ h27 _) mdX12_282 (la_99 hn) rfl ⟨rfl, rfl⟩ ⟨(show 1 + 1 ≤ fr + 1 by omega), (show 8 + (3 + 11) + 22 ≤ lo + 40 by omega)⟩ rfl hl.1 rfl (Nat.le_of_ble_eq_true rfl) dX12_negation_26) (fun H locs hI => ?_)
    exact rV X hI hr (g_1 hm) dX12_negation_29

def fX12_sum_22 (N : Nat) (rc : Nat → Mem → Option Mem) (k4 : Mem → Option Mem)  (m : Mem) : Option Mem := (fX12_knot  m).bind (fun q6 => (fX12_goOn N q6).bind (fun q8 => (rc 4 q8).bind (fun q10 => (fX12_puts (2 : Int32) (m.1 99 29) q10).bind (fun q12 => k4 q12))))
set_option maxHeartbeats 4000000 in
set_option maxRecDepth 100000 in
theorem tX12_sum_22 (N : Nat) (rc : Nat → Mem → Option Mem) {l : Launch} {D : va_G} {ca : Nat → ClassId} {ad : Nat → Nat} {p : Program} {e : Env} {s : State} {mm : MethodId} {args : Array Value} {below : List Frame} {meth : Method} {c : Code} {k4 : Mem → Option Mem} (hn : HNr ca) (X : CX p s mm args meth c cX12_sum 2 RX12 D ca ad (WA ca ad s.heap.size)) (hr : meth.sig.returnType = none) (fin : Mem) (fr lo : Nat) (hfr : 10 ≤ fr) (hlo : 250 ≤ lo) (hrc : RCH l D ca ad fr lo rc) (hk4 : ∀  (m : Mem) (H : Heap) (locs : List Loc) (ls : Array Slot), IW D ca ad (WA ca ad s.heap.size) s m H locs → lv_has ls 2 [(0, .ref (ad 99))] → k4 m = some fin → W p l e (rmG (fr + 1) (lo + 40)) s mm args below meth c H locs 0 0 (MQ below (QV D ca ad s.heap.size fin) args s 0 0 (WA ca ad s.heap.size)) (F0 mm 4 ls [])) : ∀  (m : Mem) (H : Heap) (locs : List Loc) (ls : Array Slot), IW D ca ad (WA ca ad s.heap.size) s m H locs → lv_has ls 2 [(0, .ref (ad 99))] → fX12_sum_22 N rc k4 m = some fin → W p l e (rmG (fr + 1) (lo + 40)) s mm args below meth c H locs 0 0 (MQ below (QV D ca ad s.heap.size fin) args s 0 0 (WA ca ad s.heap.size)) (F0 mm 22 ls []) := by
  have hx := X.1
  have hb := X.2.1
  intro m H locs ls hI hl hm
  have hm : ((fX12_knot  m).bind (fun q6 => (fX12_goOn N q6).bind (fun q8 => (rc 4 q8).bind (fun q10 => (fX12_puts (2 : Int32) (m.1 99 29) q10).bind (fun q12 => k4 q12))))) = some fin := hm
  refine lv_aload_n hx hb dX12_sum_22 rfl (lv_at hl 0 rfl) ?_
  refine gI X hI fdX12_183 (la_99 hn) dX12_sum_23 ?_
  refine lv_istore_n (lv' := [(1, .int (m.1 99 29)), (0, .ref (ad 99))]) hx hb dX12_sum_26 rfl hl (by decide) rfl (fun ls hl => ?_)
  refine lv_aload_n hx hb dX12_sum_27 rfl (lv_at hl 1 rfl) ?_
  obtain ⟨q6, h7, hm⟩ := g_b hm
  refine backV X hI (runV X hI (ctX12_knot   hn _ _ h7 _) mdX12_279 (la_99 hn) rfl ⟨rfl, rfl⟩ ⟨(show 1 + 1 ≤ fr + 1 by omega), (show 8 + (1 + 11) + 21 ≤ lo + 40 by omega)⟩ rfl hl.1 rfl (Nat.le_of_ble_eq_true rfl) dX12_sum_28) (fun H locs hI => ?_)
  refine lv_aload_n hx hb dX12_sum_31 rfl (lv_at hl 1 rfl) ?_
  obtain ⟨q8, h9, hm⟩ := g_b hm
  refine backV X hI (runV X hI (ctX12_goOn N  hn _ _ h9 _) mdX12_232 (la_99 hn) rfl ⟨rfl, rfl⟩ ⟨(show 6 + 1 ≤ fr + 1 by omega), (show 8 + (1 + 11) + 134 ≤ lo + 40 by omega)⟩ rfl hl.1 rfl (Nat.le_of_ble_eq_true rfl) dX12_sum_32) (fun H locs hI => ?_)
  refine lv_aload_n hx hb dX12_sum_35 rfl (lv_at hl 1 rfl) ?_
  obtain ⟨q10, h11, hm⟩ := g_b hm
  refine backV X hI (runV X hI (hrc.2.2.2.2.1 _ _ h11 _) mdX12_291 (la_99 hn) rfl ⟨rfl, rfl⟩ ⟨Nat.le_refl _, (show 8 + (2 + 11) + lo ≤ lo + 40 by omega)⟩ rfl hl.1 rfl (Nat.le_of_ble_eq_true rfl) dX12_sum_36) (fun H locs hI => ?_)
  refine lv_aload_n hx hb dX12_sum_39 rfl (lv_at hl 1 rfl) ?_
  refine lv_iconst (v := (2 : Int32)) hx hb dX12_sum_40 (by decide) ?_
  refine lv_iload_n hx hb dX12_sum_41 rfl (lv_at hl 0 rfl) ?_
  obtain ⟨q12, h13, hm⟩ := g_b hm
  refine backV X hI (runV X hI (ctX12_puts (2 : Int32) (m.1 99 29)  hn _ _ h13 _) mdX12_282 (la_99 hn) rfl ⟨rfl, rfl⟩ ⟨(show 1 + 1 ≤ fr + 1 by omega), (show 8 + (3 + 11) + 22 ≤ lo + 40 by omega)⟩ rfl hl.1 rfl (Nat.le_of_ble_eq_true rfl) dX12_sum_42) (fun H locs hI => ?_)
  refine lv_goto (tgt := 4) hx hb dX12_sum_45 (by decide) ?_
  exact hk4 q12 H locs ls hI (lv_sub hl [1] rfl) hm
def fX12_sum_4 (N : Nat) (rc : Nat → Mem → Option Mem) : Nat → Mem → Option Mem
  | 0, _ => none
  | n + 1, m => (fX12_isSign (43 : Int32) m).bind (fun q3 => if q3 = 0 then ((fX12_isSign (45 : Int32) m).bind (fun q14 => if q14 = 0 then (some m) else (fX12_sum_22 N rc (fun m => fX12_sum_4 N rc n m) m))) else (fX12_sum_22 N rc (fun m => fX12_sum_4 N rc n m) m))
set_option maxHeartbeats 4000000 in
set_option maxRecDepth 100000 in
theorem tX12_sum_4 (N : Nat) (rc : Nat → Mem → Option Mem) {l : Launch} {D : va_G} {ca : Nat → ClassId} {ad : Nat → Nat} {p : Program} {e : Env} {s : State} {mm : MethodId} {args : Array Value} {below : List Frame} {meth : Method} {c : Code}  (hn : HNr ca) (X : CX p s mm args meth c cX12_sum 2 RX12 D ca ad (WA ca ad s.heap.size)) (hr : meth.sig.returnType = none) (fin : Mem) (fr lo : Nat) (hfr : 10 ≤ fr) (hlo : 250 ≤ lo) (hrc : RCH l D ca ad fr lo rc)  : ∀ (n : Nat)  (m : Mem) (H : Heap) (locs : List Loc) (ls : Array Slot), IW D ca ad (WA ca ad s.heap.size) s m H locs → lv_has ls 2 [(0, .ref (ad 99))] → fX12_sum_4 N rc n m = some fin → W p l e (rmG (fr + 1) (lo + 40)) s mm args below meth c H locs 0 0 (MQ below (QV D ca ad s.heap.size fin) args s 0 0 (WA ca ad s.heap.size)) (F0 mm 4 ls []) := by
  have hx := X.1
  have hb := X.2.1
  intro n
  induction n with
  | zero => intro m H locs ls hI hl hm
            exact absurd hm (by intro q; cases q)
  | succ n ih =>
    intro m H locs ls hI hl hm
    have hm : ((fX12_isSign (43 : Int32) m).bind (fun q3 => if q3 = 0 then ((fX12_isSign (45 : Int32) m).bind (fun q14 => if q14 = 0 then (some m) else (fX12_sum_22 N rc (fun m => fX12_sum_4 N rc n m) m))) else (fX12_sum_22 N rc (fun m => fX12_sum_4 N rc n m) m))) = some fin := hm
    refine lv_aload_n hx hb dX12_sum_4 rfl (lv_at hl 0 rfl) ?_
    refine lv_bipush (v := (43 : Int32)) hx hb dX12_sum_5 (by decide) ?_
    obtain ⟨q3, h4, hm⟩ := g_b hm
    refine backI X hI (runV X hI (ctX12_isSign (43 : Int32)  hn _ _ h4 _) mdX12_261 (la_99 hn) rfl ⟨rfl, rfl⟩ ⟨(show 0 + 1 ≤ fr + 1 by omega), (show 8 + (2 + 11) + 0 ≤ lo + 40 by omega)⟩ rfl hl.1 rfl (Nat.le_of_ble_eq_true rfl) dX12_sum_7) (fun H locs hI => ?_)
    refine lv_if_ne (tgt := 22) hx hb dX12_sum_10 (by decide) (fun c5 => ?_) (fun c5 => ?_)
    · have hm := g_f c5 hm
      exact tX12_sum_22 N rc hn X hr fin fr lo hfr hlo hrc ih m H locs ls hI (lv_sub hl [0] rfl) hm
    · have hm := g_t c5 hm
      refine lv_aload_n hx hb dX12_sum_13 rfl (lv_at hl 0 rfl) ?_
      refine lv_bipush (v := (45 : Int32)) hx hb dX12_sum_14 (by decide) ?_
      obtain ⟨q14, h15, hm⟩ := g_b hm
      refine backI X hI (runV X hI (ctX12_isSign (45 : Int32)  hn _ _ h15 _) mdX12_261 (la_99 hn) rfl ⟨rfl, rfl⟩ ⟨(show 0 + 1 ≤ fr + 1 by omega), (show 8 + (2 + 11) + 0 ≤ lo + 40 by omega)⟩ rfl hl.1 rfl (Nat.le_of_ble_eq_true rfl) dX12_sum_16) (fun H locs hI => ?_)
      refine lv_if_eq (tgt := 48) hx hb dX12_sum_19 (by decide) (fun c16 => ?_) (fun c16 => ?_)
      · have hm := g_t c16 hm
        exact rV X hI hr (g_1 hm) dX12_sum_48
      · have hm := g_f c16 hm
        exact tX12_sum_22 N rc hn X hr fin fr lo hfr hlo hrc ih m H locs ls hI (lv_sub hl [0] rfl) hm
def fX12_sum (N : Nat) (rc : Nat → Mem → Option Mem)  (m : Mem) : Option Mem := (rc 4 m).bind (fun q1 => fX12_sum_4 N rc N q1)
set_option maxHeartbeats 4000000 in
set_option maxRecDepth 100000 in
theorem ctX12_sum {l : Launch} {D : va_G} {ca : Nat → ClassId} {ad : Nat → Nat} (N : Nat) (rc : Nat → Mem → Option Mem)   (hn : HNr ca) (m : Mem) (fin : Mem) (fr lo : Nat) (hfr : 10 ≤ fr) (hlo : 250 ≤ lo) (hrc : RCH l D ca ad fr lo rc) (hm : fX12_sum N rc m = some fin) : CV l D ca ad yX12_sum cwX12_sum (rmG (fr + 1) (lo + 40)) [.ref (ad 99)] m fin := by
  refine start (by decide) (Nat.le_of_ble_eq_true rfl) ?_
  intro p e s mm args below meth c H locs ls X hI hr hl
  have X : CX p s mm args meth c cX12_sum 2 RX12 D ca ad (WA ca ad s.heap.size) := X
  have hx := X.1
  have hb := X.2.1
  have hl : lv_has ls 2 [(0, .ref (ad 99))] := hl
  have hm : ((rc 4 m).bind (fun q1 => fX12_sum_4 N rc N q1)) = some fin := hm
  refine lv_aload_n hx hb dX12_sum_0 rfl (lv_at hl 0 rfl) ?_
  obtain ⟨q1, h2, hm⟩ := g_b hm
  refine backV X hI (runV X hI (hrc.2.2.2.2.1 _ _ h2 _) mdX12_291 (la_99 hn) rfl ⟨rfl, rfl⟩ ⟨Nat.le_refl _, (show 8 + (2 + 11) + lo ≤ lo + 40 by omega)⟩ rfl hl.1 rfl (Nat.le_of_ble_eq_true rfl) dX12_sum_1) (fun H locs hI => ?_)
  exact tX12_sum_4 N rc hn X hr fin fr lo hfr hlo hrc  N q1 H locs ls hI (lv_sub hl [0] rfl) hm

def fX12_product_22 (N : Nat) (rc : Nat → Mem → Option Mem) (k4 : Mem → Option Mem)  (m : Mem) : Option Mem := (fX12_knot  m).bind (fun q6 => (fX12_goOn N q6).bind (fun q8 => (rc 5 q8).bind (fun q10 => (fX12_puts (2 : Int32) (m.1 99 29) q10).bind (fun q12 => k4 q12))))
set_option maxHeartbeats 4000000 in
set_option maxRecDepth 100000 in
theorem tX12_product_22 (N : Nat) (rc : Nat → Mem → Option Mem) {l : Launch} {D : va_G} {ca : Nat → ClassId} {ad : Nat → Nat} {p : Program} {e : Env} {s : State} {mm : MethodId} {args : Array Value} {below : List Frame} {meth : Method} {c : Code} {k4 : Mem → Option Mem} (hn : HNr ca) (X : CX p s mm args meth c cX12_product 2 RX12 D ca ad (WA ca ad s.heap.size)) (hr : meth.sig.returnType = none) (fin : Mem) (fr lo : Nat) (hfr : 10 ≤ fr) (hlo : 250 ≤ lo) (hrc : RCH l D ca ad fr lo rc) (hk4 : ∀  (m : Mem) (H : Heap) (locs : List Loc) (ls : Array Slot), IW D ca ad (WA ca ad s.heap.size) s m H locs → lv_has ls 2 [(0, .ref (ad 99))] → k4 m = some fin → W p l e (rmG (fr + 1) (lo + 40)) s mm args below meth c H locs 0 0 (MQ below (QV D ca ad s.heap.size fin) args s 0 0 (WA ca ad s.heap.size)) (F0 mm 4 ls [])) : ∀  (m : Mem) (H : Heap) (locs : List Loc) (ls : Array Slot), IW D ca ad (WA ca ad s.heap.size) s m H locs → lv_has ls 2 [(0, .ref (ad 99))] → fX12_product_22 N rc k4 m = some fin → W p l e (rmG (fr + 1) (lo + 40)) s mm args below meth c H locs 0 0 (MQ below (QV D ca ad s.heap.size fin) args s 0 0 (WA ca ad s.heap.size)) (F0 mm 22 ls []) := by
  have hx := X.1
  have hb := X.2.1
  intro m H locs ls hI hl hm
  have hm : ((fX12_knot  m).bind (fun q6 => (fX12_goOn N q6).bind (fun q8 => (rc 5 q8).bind (fun q10 => (fX12_puts (2 : Int32) (m.1 99 29) q10).bind (fun q12 => k4 q12))))) = some fin := hm
  refine lv_aload_n hx hb dX12_product_22 rfl (lv_at hl 0 rfl) ?_
  refine gI X hI fdX12_183 (la_99 hn) dX12_product_23 ?_
  refine lv_istore_n (lv' := [(1, .int (m.1 99 29)), (0, .ref (ad 99))]) hx hb dX12_product_26 rfl hl (by decide) rfl (fun ls hl => ?_)
  refine lv_aload_n hx hb dX12_product_27 rfl (lv_at hl 1 rfl) ?_
  obtain ⟨q6, h7, hm⟩ := g_b hm
  refine backV X hI (runV X hI (ctX12_knot   hn _ _ h7 _) mdX12_279 (la_99 hn) rfl ⟨rfl, rfl⟩ ⟨(show 1 + 1 ≤ fr + 1 by omega), (show 8 + (1 + 11) + 21 ≤ lo + 40 by omega)⟩ rfl hl.1 rfl (Nat.le_of_ble_eq_true rfl) dX12_product_28) (fun H locs hI => ?_)
  refine lv_aload_n hx hb dX12_product_31 rfl (lv_at hl 1 rfl) ?_
  obtain ⟨q8, h9, hm⟩ := g_b hm
  refine backV X hI (runV X hI (ctX12_goOn N  hn _ _ h9 _) mdX12_232 (la_99 hn) rfl ⟨rfl, rfl⟩ ⟨(show 6 + 1 ≤ fr + 1 by omega), (show 8 + (1 + 11) + 134 ≤ lo + 40 by omega)⟩ rfl hl.1 rfl (Nat.le_of_ble_eq_true rfl) dX12_product_32) (fun H locs hI => ?_)
  refine lv_aload_n hx hb dX12_product_35 rfl (lv_at hl 1 rfl) ?_
  obtain ⟨q10, h11, hm⟩ := g_b hm
  refine backV X hI (runV X hI (hrc.2.2.2.2.2 _ _ h11 _) mdX12_294 (la_99 hn) rfl ⟨rfl, rfl⟩ ⟨Nat.le_refl _, (show 8 + (2 + 11) + lo ≤ lo + 40 by omega)⟩ rfl hl.1 rfl (Nat.le_of_ble_eq_true rfl) dX12_product_36) (fun H locs hI => ?_)
  refine lv_aload_n hx hb dX12_product_39 rfl (lv_at hl 1 rfl) ?_
  refine lv_iconst (v := (2 : Int32)) hx hb dX12_product_40 (by decide) ?_
  refine lv_iload_n hx hb dX12_product_41 rfl (lv_at hl 0 rfl) ?_
  obtain ⟨q12, h13, hm⟩ := g_b hm
  refine backV X hI (runV X hI (ctX12_puts (2 : Int32) (m.1 99 29)  hn _ _ h13 _) mdX12_282 (la_99 hn) rfl ⟨rfl, rfl⟩ ⟨(show 1 + 1 ≤ fr + 1 by omega), (show 8 + (3 + 11) + 22 ≤ lo + 40 by omega)⟩ rfl hl.1 rfl (Nat.le_of_ble_eq_true rfl) dX12_product_42) (fun H locs hI => ?_)
  refine lv_goto (tgt := 4) hx hb dX12_product_45 (by decide) ?_
  exact hk4 q12 H locs ls hI (lv_sub hl [1] rfl) hm
def fX12_product_4 (N : Nat) (rc : Nat → Mem → Option Mem) : Nat → Mem → Option Mem
  | 0, _ => none
  | n + 1, m => (fX12_isSign (42 : Int32) m).bind (fun q3 => if q3 = 0 then ((fX12_isSign (47 : Int32) m).bind (fun q14 => if q14 = 0 then (some m) else (fX12_product_22 N rc (fun m => fX12_product_4 N rc n m) m))) else (fX12_product_22 N rc (fun m => fX12_product_4 N rc n m) m))
set_option maxHeartbeats 4000000 in
set_option maxRecDepth 100000 in
theorem tX12_product_4 (N : Nat) (rc : Nat → Mem → Option Mem) {l : Launch} {D : va_G} {ca : Nat → ClassId} {ad : Nat → Nat} {p : Program} {e : Env} {s : State} {mm : MethodId} {args : Array Value} {below : List Frame} {meth : Method} {c : Code}  (hn : HNr ca) (X : CX p s mm args meth c cX12_product 2 RX12 D ca ad (WA ca ad s.heap.size)) (hr : meth.sig.returnType = none) (fin : Mem) (fr lo : Nat) (hfr : 10 ≤ fr) (hlo : 250 ≤ lo) (hrc : RCH l D ca ad fr lo rc)  : ∀ (n : Nat)  (m : Mem) (H : Heap) (locs : List Loc) (ls : Array Slot), IW D ca ad (WA ca ad s.heap.size) s m H locs → lv_has ls 2 [(0, .ref (ad 99))] → fX12_product_4 N rc n m = some fin → W p l e (rmG (fr + 1) (lo + 40)) s mm args below meth c H locs 0 0 (MQ below (QV D ca ad s.heap.size fin) args s 0 0 (WA ca ad s.heap.size)) (F0 mm 4 ls []) := by
  have hx := X.1
  have hb := X.2.1
  intro n
  induction n with
  | zero => intro m H locs ls hI hl hm
            exact absurd hm (by intro q; cases q)
  | succ n ih =>
    intro m H locs ls hI hl hm
    have hm : ((fX12_isSign (42 : Int32) m).bind (fun q3 => if q3 = 0 then ((fX12_isSign (47 : Int32) m).bind (fun q14 => if q14 = 0 then (some m) else (fX12_product_22 N rc (fun m => fX12_product_4 N rc n m) m))) else (fX12_product_22 N rc (fun m => fX12_product_4 N rc n m) m))) = some fin := hm
    refine lv_aload_n hx hb dX12_product_4 rfl (lv_at hl 0 rfl) ?_
    refine lv_bipush (v := (42 : Int32)) hx hb dX12_product_5 (by decide) ?_
    obtain ⟨q3, h4, hm⟩ := g_b hm
    refine backI X hI (runV X hI (ctX12_isSign (42 : Int32)  hn _ _ h4 _) mdX12_261 (la_99 hn) rfl ⟨rfl, rfl⟩ ⟨(show 0 + 1 ≤ fr + 1 by omega), (show 8 + (2 + 11) + 0 ≤ lo + 40 by omega)⟩ rfl hl.1 rfl (Nat.le_of_ble_eq_true rfl) dX12_product_7) (fun H locs hI => ?_)
    refine lv_if_ne (tgt := 22) hx hb dX12_product_10 (by decide) (fun c5 => ?_) (fun c5 => ?_)
    · have hm := g_f c5 hm
      exact tX12_product_22 N rc hn X hr fin fr lo hfr hlo hrc ih m H locs ls hI (lv_sub hl [0] rfl) hm
    · have hm := g_t c5 hm
      refine lv_aload_n hx hb dX12_product_13 rfl (lv_at hl 0 rfl) ?_
      refine lv_bipush (v := (47 : Int32)) hx hb dX12_product_14 (by decide) ?_
      obtain ⟨q14, h15, hm⟩ := g_b hm
      refine backI X hI (runV X hI (ctX12_isSign (47 : Int32)  hn _ _ h15 _) mdX12_261 (la_99 hn) rfl ⟨rfl, rfl⟩ ⟨(show 0 + 1 ≤ fr + 1 by omega), (show 8 + (2 + 11) + 0 ≤ lo + 40 by omega)⟩ rfl hl.1 rfl (Nat.le_of_ble_eq_true rfl) dX12_product_16) (fun H locs hI => ?_)
      refine lv_if_eq (tgt := 48) hx hb dX12_product_19 (by decide) (fun c16 => ?_) (fun c16 => ?_)
      · have hm := g_t c16 hm
        exact rV X hI hr (g_1 hm) dX12_product_48
      · have hm := g_f c16 hm
        exact tX12_product_22 N rc hn X hr fin fr lo hfr hlo hrc ih m H locs ls hI (lv_sub hl [0] rfl) hm
def fX12_product (N : Nat) (rc : Nat → Mem → Option Mem)  (m : Mem) : Option Mem := (rc 5 m).bind (fun q1 => fX12_product_4 N rc N q1)
set_option maxHeartbeats 4000000 in
set_option maxRecDepth 100000 in
theorem ctX12_product {l : Launch} {D : va_G} {ca : Nat → ClassId} {ad : Nat → Nat} (N : Nat) (rc : Nat → Mem → Option Mem)   (hn : HNr ca) (m : Mem) (fin : Mem) (fr lo : Nat) (hfr : 10 ≤ fr) (hlo : 250 ≤ lo) (hrc : RCH l D ca ad fr lo rc) (hm : fX12_product N rc m = some fin) : CV l D ca ad yX12_product cwX12_product (rmG (fr + 1) (lo + 40)) [.ref (ad 99)] m fin := by
  refine start (by decide) (Nat.le_of_ble_eq_true rfl) ?_
  intro p e s mm args below meth c H locs ls X hI hr hl
  have X : CX p s mm args meth c cX12_product 2 RX12 D ca ad (WA ca ad s.heap.size) := X
  have hx := X.1
  have hb := X.2.1
  have hl : lv_has ls 2 [(0, .ref (ad 99))] := hl
  have hm : ((rc 5 m).bind (fun q1 => fX12_product_4 N rc N q1)) = some fin := hm
  refine lv_aload_n hx hb dX12_product_0 rfl (lv_at hl 0 rfl) ?_
  obtain ⟨q1, h2, hm⟩ := g_b hm
  refine backV X hI (runV X hI (hrc.2.2.2.2.2 _ _ h2 _) mdX12_294 (la_99 hn) rfl ⟨rfl, rfl⟩ ⟨Nat.le_refl _, (show 8 + (2 + 11) + lo ≤ lo + 40 by omega)⟩ rfl hl.1 rfl (Nat.le_of_ble_eq_true rfl) dX12_product_1) (fun H locs hI => ?_)
  exact tX12_product_4 N rc hn X hr fin fr lo hfr hlo hrc  N q1 H locs ls hI (lv_sub hl [0] rfl) hm

def fX12_primary_194 (N : Nat) (rc : Nat → Mem → Option Mem) (y0 : Int32) (y1 : Int32) (m : Mem) : Option Mem := (fX12_puts y1 y0 m).bind (fun q12 => (fX12_goOn N q12).bind (fun q14 => some q14))
set_option maxHeartbeats 4000000 in
set_option maxRecDepth 100000 in
theorem tX12_primary_194 (N : Nat) (rc : Nat → Mem → Option Mem) {l : Launch} {D : va_G} {ca : Nat → ClassId} {ad : Nat → Nat} {p : Program} {e : Env} {s : State} {mm : MethodId} {args : Array Value} {below : List Frame} {meth : Method} {c : Code}  (hn : HNr ca) (X : CX p s mm args meth c cX12_primary 2 RX12 D ca ad (WA ca ad s.heap.size)) (hr : meth.sig.returnType = none) (fin : Mem) (fr lo : Nat) (hfr : 10 ≤ fr) (hlo : 250 ≤ lo) (hrc : RCH l D ca ad fr lo rc)  : ∀ (y0 : Int32) (y1 : Int32) (m : Mem) (H : Heap) (locs : List Loc) (ls : Array Slot), IW D ca ad (WA ca ad s.heap.size) s m H locs → lv_has ls 2 [(0, .ref (ad 99))] → fX12_primary_194 N rc y0 y1 m = some fin → W p l e (rmG (fr + 1) (lo + 40)) s mm args below meth c H locs 0 0 (MQ below (QV D ca ad s.heap.size fin) args s 0 0 (WA ca ad s.heap.size)) (F0 mm 194 ls [.int y0, .int y1, .ref (ad 99)]) := by
  have hx := X.1
  have hb := X.2.1
  intro y0 y1 m H locs ls hI hl hm
  have hm : ((fX12_puts y1 y0 m).bind (fun q12 => (fX12_goOn N q12).bind (fun q14 => some q14))) = some fin := hm
  obtain ⟨q12, h13, hm⟩ := g_b hm
  refine backV X hI (runV X hI (ctX12_puts y1 y0  hn _ _ h13 _) mdX12_282 (la_99 hn) rfl ⟨rfl, rfl⟩ ⟨(show 1 + 1 ≤ fr + 1 by omega), (show 8 + (3 + 11) + 22 ≤ lo + 40 by omega)⟩ rfl hl.1 rfl (Nat.le_of_ble_eq_true rfl) dX12_primary_194) (fun H locs hI => ?_)
  refine lv_aload_n hx hb dX12_primary_197 rfl (lv_at hl 0 rfl) ?_
  obtain ⟨q14, h15, hm⟩ := g_b hm
  refine backV X hI (runV X hI (ctX12_goOn N  hn _ _ h15 _) mdX12_232 (la_99 hn) rfl ⟨rfl, rfl⟩ ⟨(show 6 + 1 ≤ fr + 1 by omega), (show 8 + (1 + 11) + 134 ≤ lo + 40 by omega)⟩ rfl hl.1 rfl (Nat.le_of_ble_eq_true rfl) dX12_primary_198) (fun H locs hI => ?_)
  exact rV X hI hr (g_1 hm) dX12_primary_201
def fX12_primary_176 (N : Nat) (rc : Nat → Mem → Option Mem) (x1 : Int32) (y0 : Int32) (m : Mem) : Option Mem := if x1 = 0 then (fX12_primary_194 N rc ((m.1 99 29) - (14 : Int32)) y0 m) else (fX12_primary_194 N rc (m.1 99 29) y0 m)
set_option maxHeartbeats 4000000 in
set_option maxRecDepth 100000 in
theorem tX12_primary_176 (N : Nat) (rc : Nat → Mem → Option Mem) {l : Launch} {D : va_G} {ca : Nat → ClassId} {ad : Nat → Nat} {p : Program} {e : Env} {s : State} {mm : MethodId} {args : Array Value} {below : List Frame} {meth : Method} {c : Code}  (hn : HNr ca) (X : CX p s mm args meth c cX12_primary 2 RX12 D ca ad (WA ca ad s.heap.size)) (hr : meth.sig.returnType = none) (fin : Mem) (fr lo : Nat) (hfr : 10 ≤ fr) (hlo : 250 ≤ lo) (hrc : RCH l D ca ad fr lo rc)  : ∀ (x1 : Int32) (y0 : Int32) (m : Mem) (H : Heap) (locs : List Loc) (ls : Array Slot), IW D ca ad (WA ca ad s.heap.size) s m H locs → lv_has ls 2 [(0, .ref (ad 99)), (1, .int x1)] → fX12_primary_176 N rc x1 y0 m = some fin → W p l e (rmG (fr + 1) (lo + 40)) s mm args below meth c H locs 0 0 (MQ below (QV D ca ad s.heap.size fin) args s 0 0 (WA ca ad s.heap.size)) (F0 mm 176 ls [.int y0, .ref (ad 99)]) := by
  have hx := X.1
  have hb := X.2.1
  intro x1 y0 m H locs ls hI hl hm
  have hm : (if x1 = 0 then (fX12_primary_194 N rc ((m.1 99 29) - (14 : Int32)) y0 m) else (fX12_primary_194 N rc (m.1 99 29) y0 m)) = some fin := hm
  refine lv_iload_n hx hb dX12_primary_176 rfl (lv_at hl 1 rfl) ?_
  refine lv_if_eq (tgt := 187) hx hb dX12_primary_177 (by decide) (fun c11 => ?_) (fun c11 => ?_)
  · have hm := g_t c11 hm
    refine lv_aload_n hx hb dX12_primary_187 rfl (lv_at hl 0 rfl) ?_
    refine gI X hI fdX12_183 (la_99 hn) dX12_primary_188 ?_
    refine lv_bipush (v := (14 : Int32)) hx hb dX12_primary_191 (by decide) ?_
    refine lv_isub hx hb dX12_primary_193 ?_
    exact tX12_primary_194 N rc hn X hr fin fr lo hfr hlo hrc  ((m.1 99 29) - (14 : Int32)) y0 m H locs ls hI (lv_sub hl [0] rfl) hm
  · have hm := g_f c11 hm
    refine lv_aload_n hx hb dX12_primary_180 rfl (lv_at hl 0 rfl) ?_
    refine gI X hI fdX12_183 (la_99 hn) dX12_primary_181 ?_
    refine lv_goto (tgt := 194) hx hb dX12_primary_184 (by decide) ?_
    exact tX12_primary_194 N rc hn X hr fin fr lo hfr hlo hrc  (m.1 99 29) y0 m H locs ls hI (lv_sub hl [0] rfl) hm
def fX12_primary_162 (N : Nat) (rc : Nat → Mem → Option Mem) (x1 : Int32) (m : Mem) : Option Mem := (fX12_knot  m).bind (fun q8 => if x1 = 0 then (fX12_primary_176 N rc x1 (1 : Int32) q8) else (fX12_primary_176 N rc x1 (0 : Int32) q8))
set_option maxHeartbeats 4000000 in
set_option maxRecDepth 100000 in
theorem tX12_primary_162 (N : Nat) (rc : Nat → Mem → Option Mem) {l : Launch} {D : va_G} {ca : Nat → ClassId} {ad : Nat → Nat} {p : Program} {e : Env} {s : State} {mm : MethodId} {args : Array Value} {below : List Frame} {meth : Method} {c : Code}  (hn : HNr ca) (X : CX p s mm args meth c cX12_primary 2 RX12 D ca ad (WA ca ad s.heap.size)) (hr : meth.sig.returnType = none) (fin : Mem) (fr lo : Nat) (hfr : 10 ≤ fr) (hlo : 250 ≤ lo) (hrc : RCH l D ca ad fr lo rc)  : ∀ (x1 : Int32) (m : Mem) (H : Heap) (locs : List Loc) (ls : Array Slot), IW D ca ad (WA ca ad s.heap.size) s m H locs → lv_has ls 2 [(0, .ref (ad 99)), (1, .int x1)] → fX12_primary_162 N rc x1 m = some fin → W p l e (rmG (fr + 1) (lo + 40)) s mm args below meth c H locs 0 0 (MQ below (QV D ca ad s.heap.size fin) args s 0 0 (WA ca ad s.heap.size)) (F0 mm 162 ls []) := by
  have hx := X.1
  have hb := X.2.1
  intro x1 m H locs ls hI hl hm
  have hm : ((fX12_knot  m).bind (fun q8 => if x1 = 0 then (fX12_primary_176 N rc x1 (1 : Int32) q8) else (fX12_primary_176 N rc x1 (0 : Int32) q8))) = some fin := hm
  refine lv_aload_n hx hb dX12_primary_162 rfl (lv_at hl 0 rfl) ?_
  obtain ⟨q8, h9, hm⟩ := g_b hm
  refine backV X hI (runV X hI (ctX12_knot   hn _ _ h9 _) mdX12_279 (la_99 hn) rfl ⟨rfl, rfl⟩ ⟨(show 1 + 1 ≤ fr + 1 by omega), (show 8 + (1 + 11) + 21 ≤ lo + 40 by omega)⟩ rfl hl.1 rfl (Nat.le_of_ble_eq_true rfl) dX12_primary_163) (fun H locs hI => ?_)
  refine lv_aload_n hx hb dX12_primary_166 rfl (lv_at hl 0 rfl) ?_
  refine lv_iload_n hx hb dX12_primary_167 rfl (lv_at hl 1 rfl) ?_
  refine lv_if_eq (tgt := 175) hx hb dX12_primary_168 (by decide) (fun c10 => ?_) (fun c10 => ?_)
  · have hm := g_t c10 hm
    refine lv_iconst (v := (1 : Int32)) hx hb dX12_primary_175 (by decide) ?_
    exact tX12_primary_176 N rc hn X hr fin fr lo hfr hlo hrc  x1 (1 : Int32) q8 H locs ls hI (lv_sub hl [0, 1] rfl) hm
  · have hm := g_f c10 hm
    refine lv_iconst (v := (0 : Int32)) hx hb dX12_primary_171 (by decide) ?_
    refine lv_goto (tgt := 176) hx hb dX12_primary_172 (by decide) ?_
    exact tX12_primary_176 N rc hn X hr fin fr lo hfr hlo hrc  x1 (0 : Int32) q8 H locs ls hI (lv_sub hl [0, 1] rfl) hm
def fX12_primary_157 (N : Nat) (rc : Nat → Mem → Option Mem) (x1 : Int32) (m : Mem) : Option Mem := (fX12_wrong (1 : Int32) m).bind (fun q17 => fX12_primary_162 N rc x1 q17)
set_option maxHeartbeats 4000000 in
set_option maxRecDepth 100000 in
theorem tX12_primary_157 (N : Nat) (rc : Nat → Mem → Option Mem) {l : Launch} {D : va_G} {ca : Nat → ClassId} {ad : Nat → Nat} {p : Program} {e : Env} {s : State} {mm : MethodId} {args : Array Value} {below : List Frame} {meth : Method} {c : Code}  (hn : HNr ca) (X : CX p s mm args meth c cX12_primary 2 RX12 D ca ad (WA ca ad s.heap.size)) (hr : meth.sig.returnType = none) (fin : Mem) (fr lo : Nat) (hfr : 10 ≤ fr) (hlo : 250 ≤ lo) (hrc : RCH l D ca ad fr lo rc)  : ∀ (x1 : Int32) (m : Mem) (H : Heap) (locs : List Loc) (ls : Array Slot), IW D ca ad (WA ca ad s.heap.size) s m H locs → lv_has ls 2 [(0, .ref (ad 99)), (1, .int x1)] → fX12_primary_157 N rc x1 m = some fin → W p l e (rmG (fr + 1) (lo + 40)) s mm args below meth c H locs 0 0 (MQ below (QV D ca ad s.heap.size fin) args s 0 0 (WA ca ad s.heap.size)) (F0 mm 157 ls []) := by
  have hx := X.1
  have hb := X.2.1
  intro x1 m H locs ls hI hl hm
  have hm : ((fX12_wrong (1 : Int32) m).bind (fun q17 => fX12_primary_162 N rc x1 q17)) = some fin := hm
  refine lv_aload_n hx hb dX12_primary_157 rfl (lv_at hl 0 rfl) ?_
  refine lv_iconst (v := (1 : Int32)) hx hb dX12_primary_158 (by decide) ?_
  obtain ⟨q17, h18, hm⟩ := g_b hm
  refine backV X hI (runV X hI (ctX12_wrong (1 : Int32)  hn _ _ h18 _) mdX12_217 (la_99 hn) rfl ⟨rfl, rfl⟩ ⟨(show 0 + 1 ≤ fr + 1 by omega), (show 8 + (2 + 11) + 0 ≤ lo + 40 by omega)⟩ rfl hl.1 rfl (Nat.le_of_ble_eq_true rfl) dX12_primary_159) (fun H locs hI => ?_)
  exact tX12_primary_162 N rc hn X hr fin fr lo hfr hlo hrc  x1 q17 H locs ls hI (lv_sub hl [0, 1] rfl) hm
def fX12_primary_137 (N : Nat) (rc : Nat → Mem → Option Mem) (x1 : Int32) (m : Mem) : Option Mem := if x1 = 0 then (if (m.1 99 28) = 0 then (if (14 : Int32) ≤ (m.1 99 29) then (fX12_primary_162 N rc x1 m) else (fX12_primary_157 N rc x1 m)) else (fX12_primary_157 N rc x1 m)) else (fX12_primary_162 N rc x1 m)
set_option maxHeartbeats 4000000 in
set_option maxRecDepth 100000 in
theorem tX12_primary_137 (N : Nat) (rc : Nat → Mem → Option Mem) {l : Launch} {D : va_G} {ca : Nat → ClassId} {ad : Nat → Nat} {p : Program} {e : Env} {s : State} {mm : MethodId} {args : Array Value} {below : List Frame} {meth : Method} {c : Code}  (hn : HNr ca) (X : CX p s mm args meth c cX12_primary 2 RX12 D ca ad (WA ca ad s.heap.size)) (hr : meth.sig.returnType = none) (fin : Mem) (fr lo : Nat) (hfr : 10 ≤ fr) (hlo : 250 ≤ lo) (hrc : RCH l D ca ad fr lo rc)  : ∀ (x1 : Int32) (m : Mem) (H : Heap) (locs : List Loc) (ls : Array Slot), IW D ca ad (WA ca ad s.heap.size) s m H locs → lv_has ls 2 [(0, .ref (ad 99)), (1, .int x1)] → fX12_primary_137 N rc x1 m = some fin → W p l e (rmG (fr + 1) (lo + 40)) s mm args below meth c H locs 0 0 (MQ below (QV D ca ad s.heap.size fin) args s 0 0 (WA ca ad s.heap.size)) (F0 mm 137 ls []) := by
  have hx := X.1
  have hb := X.2.1
  intro x1 m H locs ls hI hl hm
  have hm : (if x1 = 0 then (if (m.1 99 28) = 0 then (if (14 : Int32) ≤ (m.1 99 29) then (fX12_primary_162 N rc x1 m) else (fX12_primary_157 N rc x1 m)) else (fX12_primary_157 N rc x1 m)) else (fX12_primary_162 N rc x1 m)) = some fin := hm
  refine lv_iload_n hx hb dX12_primary_137 rfl (lv_at hl 1 rfl) ?_
  refine lv_if_ne (tgt := 162) hx hb dX12_primary_138 (by decide) (fun c7 => ?_) (fun c7 => ?_)
  · have hm := g_f c7 hm
    exact tX12_primary_162 N rc hn X hr fin fr lo hfr hlo hrc  x1 m H locs ls hI (lv_sub hl [0, 1] rfl) hm
  · have hm := g_t c7 hm
    refine lv_aload_n hx hb dX12_primary_141 rfl (lv_at hl 0 rfl) ?_
    refine gI X hI fdX12_173 (la_99 hn) dX12_primary_142 ?_
    refine lv_if_ne (tgt := 157) hx hb dX12_primary_145 (by decide) (fun c16 => ?_) (fun c16 => ?_)
    · have hm := g_f c16 hm
      exact tX12_primary_157 N rc hn X hr fin fr lo hfr hlo hrc  x1 m H locs ls hI (lv_sub hl [0, 1] rfl) hm
    · have hm := g_t c16 hm
      refine lv_aload_n hx hb dX12_primary_148 rfl (lv_at hl 0 rfl) ?_
      refine gI X hI fdX12_183 (la_99 hn) dX12_primary_149 ?_
      refine lv_bipush (v := (14 : Int32)) hx hb dX12_primary_152 (by decide) ?_
      refine lv_icmp_ge (tgt := 162) hx hb dX12_primary_154 (by decide) (fun c19 => ?_) (fun c19 => ?_)
      · have hm := g_t c19 hm
        exact tX12_primary_162 N rc hn X hr fin fr lo hfr hlo hrc  x1 m H locs ls hI (lv_sub hl [0, 1] rfl) hm
      · have hm := g_f c19 hm
        exact tX12_primary_157 N rc hn X hr fin fr lo hfr hlo hrc  x1 m H locs ls hI (lv_sub hl [0, 1] rfl) hm
def fX12_primary_114 (N : Nat) (rc : Nat → Mem → Option Mem) (y0 : Int32) (m : Mem) : Option Mem := if y0 = 0 then (fX12_primary_137 N rc y0 m) else (if (m.1 99 29) ≤ (9999 : Int32) then (fX12_primary_137 N rc y0 m) else ((fX12_wrong (2 : Int32) m).bind (fun q21 => fX12_primary_162 N rc y0 q21)))
set_option maxHeartbeats 4000000 in
set_option maxRecDepth 100000 in
theorem tX12_primary_114 (N : Nat) (rc : Nat → Mem → Option Mem) {l : Launch} {D : va_G} {ca : Nat → ClassId} {ad : Nat → Nat} {p : Program} {e : Env} {s : State} {mm : MethodId} {args : Array Value} {below : List Frame} {meth : Method} {c : Code}  (hn : HNr ca) (X : CX p s mm args meth c cX12_primary 2 RX12 D ca ad (WA ca ad s.heap.size)) (hr : meth.sig.returnType = none) (fin : Mem) (fr lo : Nat) (hfr : 10 ≤ fr) (hlo : 250 ≤ lo) (hrc : RCH l D ca ad fr lo rc)  : ∀ (y0 : Int32) (m : Mem) (H : Heap) (locs : List Loc) (ls : Array Slot), IW D ca ad (WA ca ad s.heap.size) s m H locs → lv_has ls 2 [(0, .ref (ad 99))] → fX12_primary_114 N rc y0 m = some fin → W p l e (rmG (fr + 1) (lo + 40)) s mm args below meth c H locs 0 0 (MQ below (QV D ca ad s.heap.size fin) args s 0 0 (WA ca ad s.heap.size)) (F0 mm 114 ls [.int y0]) := by
  have hx := X.1
  have hb := X.2.1
  intro y0 m H locs ls hI hl hm
  have hm : (if y0 = 0 then (fX12_primary_137 N rc y0 m) else (if (m.1 99 29) ≤ (9999 : Int32) then (fX12_primary_137 N rc y0 m) else ((fX12_wrong (2 : Int32) m).bind (fun q21 => fX12_primary_162 N rc y0 q21)))) = some fin := hm
  refine lv_istore_n (lv' := [(1, .int y0), (0, .ref (ad 99))]) hx hb dX12_primary_114 rfl hl (by decide) rfl (fun ls hl => ?_)
  refine lv_iload_n hx hb dX12_primary_115 rfl (lv_at hl 0 rfl) ?_
  refine lv_if_eq (tgt := 137) hx hb dX12_primary_116 (by decide) (fun c6 => ?_) (fun c6 => ?_)
  · have hm := g_t c6 hm
    exact tX12_primary_137 N rc hn X hr fin fr lo hfr hlo hrc  y0 m H locs ls hI (lv_sub hl [1, 0] rfl) hm
  · have hm := g_f c6 hm
    refine lv_aload_n hx hb dX12_primary_119 rfl (lv_at hl 1 rfl) ?_
    refine gI X hI fdX12_183 (la_99 hn) dX12_primary_120 ?_
    refine lv_sipush (v := (9999 : Int32)) hx hb dX12_primary_123 (by decide) ?_
    refine lv_icmp_le (tgt := 137) hx hb dX12_primary_126 (by decide) (fun c20 => ?_) (fun c20 => ?_)
    · have hm := g_t c20 hm
      exact tX12_primary_137 N rc hn X hr fin fr lo hfr hlo hrc  y0 m H locs ls hI (lv_sub hl [1, 0] rfl) hm
    · have hm := g_f c20 hm
      refine lv_aload_n hx hb dX12_primary_129 rfl (lv_at hl 1 rfl) ?_
      refine lv_iconst (v := (2 : Int32)) hx hb dX12_primary_130 (by decide) ?_
      obtain ⟨q21, h22, hm⟩ := g_b hm
      refine backV X hI (runV X hI (ctX12_wrong (2 : Int32)  hn _ _ h22 _) mdX12_217 (la_99 hn) rfl ⟨rfl, rfl⟩ ⟨(show 0 + 1 ≤ fr + 1 by omega), (show 8 + (2 + 11) + 0 ≤ lo + 40 by omega)⟩ rfl hl.1 rfl (Nat.le_of_ble_eq_true rfl) dX12_primary_131) (fun H locs hI => ?_)
      refine lv_goto (tgt := 162) hx hb dX12_primary_134 (by decide) ?_
      exact tX12_primary_162 N rc hn X hr fin fr lo hfr hlo hrc  y0 q21 H locs ls hI (lv_sub hl [1, 0] rfl) hm
def fX12_primary_78 (N : Nat) (rc : Nat → Mem → Option Mem)  (m : Mem) : Option Mem := if (m.1 99 30) = 0 then ((fX12_token N (mI m 99 34 ((m.1 99 34) - (1 : Int32)))).bind (fun q31 => some q31)) else (some m)
set_option maxHeartbeats 4000000 in
set_option maxRecDepth 100000 in
theorem tX12_primary_78 (N : Nat) (rc : Nat → Mem → Option Mem) {l : Launch} {D : va_G} {ca : Nat → ClassId} {ad : Nat → Nat} {p : Program} {e : Env} {s : State} {mm : MethodId} {args : Array Value} {below : List Frame} {meth : Method} {c : Code}  (hn : HNr ca) (X : CX p s mm args meth c cX12_primary 2 RX12 D ca ad (WA ca ad s.heap.size)) (hr : meth.sig.returnType = none) (fin : Mem) (fr lo : Nat) (hfr : 10 ≤ fr) (hlo : 250 ≤ lo) (hrc : RCH l D ca ad fr lo rc)  : ∀  (m : Mem) (H : Heap) (locs : List Loc) (ls : Array Slot), IW D ca ad (WA ca ad s.heap.size) s m H locs → lv_has ls 2 [(0, .ref (ad 99))] → fX12_primary_78 N rc m = some fin → W p l e (rmG (fr + 1) (lo + 40)) s mm args below meth c H locs 0 0 (MQ below (QV D ca ad s.heap.size fin) args s 0 0 (WA ca ad s.heap.size)) (F0 mm 78 ls []) := by
  have hx := X.1
  have hb := X.2.1
  intro m H locs ls hI hl hm
  have hm : (if (m.1 99 30) = 0 then ((fX12_token N (mI m 99 34 ((m.1 99 34) - (1 : Int32)))).bind (fun q31 => some q31)) else (some m)) = some fin := hm
  refine lv_aload_n hx hb dX12_primary_78 rfl (lv_at hl 0 rfl) ?_
  refine gI X hI fdX12_208 (la_99 hn) dX12_primary_79 ?_
  refine lv_if_eq (tgt := 86) hx hb dX12_primary_82 (by decide) (fun c30 => ?_) (fun c30 => ?_)
  · have hm := g_t c30 hm
    refine lv_aload_n hx hb dX12_primary_86 rfl (lv_at hl 0 rfl) ?_
    refine lv_dup hx hb dX12_primary_87 rfl ?_
    refine gI X hI fdX12_297 (la_99 hn) dX12_primary_88 ?_
    refine lv_iconst (v := (1 : Int32)) hx hb dX12_primary_91 (by decide) ?_
    refine lv_isub hx hb dX12_primary_92 ?_
    refine pI X hI fpX12_297 (la_99 hn) dX12_primary_93 (fun H locs hI => ?_)
    refine lv_aload_n hx hb dX12_primary_96 rfl (lv_at hl 0 rfl) ?_
    obtain ⟨q31, h32, hm⟩ := g_b hm
    refine backV X hI (runV X hI (ctX12_token N  hn _ _ h32 _) mdX12_214 (la_99 hn) rfl ⟨rfl, rfl⟩ ⟨(show 5 + 1 ≤ fr + 1 by omega), (show 8 + (2 + 11) + 113 ≤ lo + 40 by omega)⟩ rfl hl.1 rfl (Nat.le_of_ble_eq_true rfl) dX12_primary_97) (fun H locs hI => ?_)
    exact rV X hI hr (g_1 hm) dX12_primary_100
  · have hm := g_f c30 hm
    exact rV X hI hr (g_1 hm) dX12_primary_85
def fX12_primary_31 (N : Nat) (rc : Nat → Mem → Option Mem)  (m : Mem) : Option Mem := if (m.1 99 30) = 0 then ((fX12_token N (mI m 99 34 ((m.1 99 34) + (1 : Int32)))).bind (fun q25 => (rc 0 q25).bind (fun q27 => if (q27.1 99 30) = 0 then ((fX12_isSign (41 : Int32) q27).bind (fun q33 => if q33 = 0 then ((fX12_wrong (1 : Int32) q27).bind (fun q36 => fX12_primary_78 N rc q36)) else (fX12_primary_78 N rc q27))) else (fX12_primary_78 N rc q27)))) else (some m)
set_option maxHeartbeats 4000000 in
set_option maxRecDepth 100000 in
theorem tX12_primary_31 (N : Nat) (rc : Nat → Mem → Option Mem) {l : Launch} {D : va_G} {ca : Nat → ClassId} {ad : Nat → Nat} {p : Program} {e : Env} {s : State} {mm : MethodId} {args : Array Value} {below : List Frame} {meth : Method} {c : Code}  (hn : HNr ca) (X : CX p s mm args meth c cX12_primary 2 RX12 D ca ad (WA ca ad s.heap.size)) (hr : meth.sig.returnType = none) (fin : Mem) (fr lo : Nat) (hfr : 10 ≤ fr) (hlo : 250 ≤ lo) (hrc : RCH l D ca ad fr lo rc)  : ∀  (m : Mem) (H : Heap) (locs : List Loc) (ls : Array Slot), IW D ca ad (WA ca ad s.heap.size) s m H locs → lv_has ls 2 [(0, .ref (ad 99))] → fX12_primary_31 N rc m = some fin → W p l e (rmG (fr + 1) (lo + 40)) s mm args below meth c H locs 0 0 (MQ below (QV D ca ad s.heap.size fin) args s 0 0 (WA ca ad s.heap.size)) (F0 mm 31 ls []) := by
  have hx := X.1
  have hb := X.2.1
  intro m H locs ls hI hl hm
  have hm : (if (m.1 99 30) = 0 then ((fX12_token N (mI m 99 34 ((m.1 99 34) + (1 : Int32)))).bind (fun q25 => (rc 0 q25).bind (fun q27 => if (q27.1 99 30) = 0 then ((fX12_isSign (41 : Int32) q27).bind (fun q33 => if q33 = 0 then ((fX12_wrong (1 : Int32) q27).bind (fun q36 => fX12_primary_78 N rc q36)) else (fX12_primary_78 N rc q27))) else (fX12_primary_78 N rc q27)))) else (some m)) = some fin := hm
  refine lv_aload_n hx hb dX12_primary_31 rfl (lv_at hl 0 rfl) ?_
  refine gI X hI fdX12_208 (la_99 hn) dX12_primary_32 ?_
  refine lv_if_eq (tgt := 39) hx hb dX12_primary_35 (by decide) (fun c24 => ?_) (fun c24 => ?_)
  · have hm := g_t c24 hm
    refine lv_aload_n hx hb dX12_primary_39 rfl (lv_at hl 0 rfl) ?_
    refine lv_dup hx hb dX12_primary_40 rfl ?_
    refine gI X hI fdX12_297 (la_99 hn) dX12_primary_41 ?_
    refine lv_iconst (v := (1 : Int32)) hx hb dX12_primary_44 (by decide) ?_
    refine lv_iadd hx hb dX12_primary_45 ?_
    refine pI X hI fpX12_297 (la_99 hn) dX12_primary_46 (fun H locs hI => ?_)
    refine lv_aload_n hx hb dX12_primary_49 rfl (lv_at hl 0 rfl) ?_
    obtain ⟨q25, h26, hm⟩ := g_b hm
    refine backV X hI (runV X hI (ctX12_token N  hn _ _ h26 _) mdX12_214 (la_99 hn) rfl ⟨rfl, rfl⟩ ⟨(show 5 + 1 ≤ fr + 1 by omega), (show 8 + (2 + 11) + 113 ≤ lo + 40 by omega)⟩ rfl hl.1 rfl (Nat.le_of_ble_eq_true rfl) dX12_primary_50) (fun H locs hI => ?_)
    refine lv_aload_n hx hb dX12_primary_53 rfl (lv_at hl 0 rfl) ?_
    obtain ⟨q27, h28, hm⟩ := g_b hm
    refine backV X hI (runV X hI (hrc.1 _ _ h28 _) mdX12_267 (la_99 hn) rfl ⟨rfl, rfl⟩ ⟨Nat.le_refl _, (show 8 + (1 + 11) + lo ≤ lo + 40 by omega)⟩ rfl hl.1 rfl (Nat.le_of_ble_eq_true rfl) dX12_primary_54) (fun H locs hI => ?_)
    refine lv_aload_n hx hb dX12_primary_57 rfl (lv_at hl 0 rfl) ?_
    refine gI X hI fdX12_208 (la_99 hn) dX12_primary_58 ?_
    refine lv_if_ne (tgt := 78) hx hb dX12_primary_61 (by decide) (fun c29 => ?_) (fun c29 => ?_)
    · have hm := g_f c29 hm
      exact tX12_primary_78 N rc hn X hr fin fr lo hfr hlo hrc  q27 H locs ls hI (lv_sub hl [0] rfl) hm
    · have hm := g_t c29 hm
      refine lv_aload_n hx hb dX12_primary_64 rfl (lv_at hl 0 rfl) ?_
      refine lv_bipush (v := (41 : Int32)) hx hb dX12_primary_65 (by decide) ?_
      obtain ⟨q33, h34, hm⟩ := g_b hm
      refine backI X hI (runV X hI (ctX12_isSign (41 : Int32)  hn _ _ h34 _) mdX12_261 (la_99 hn) rfl ⟨rfl, rfl⟩ ⟨(show 0 + 1 ≤ fr + 1 by omega), (show 8 + (2 + 11) + 0 ≤ lo + 40 by omega)⟩ rfl hl.1 rfl (Nat.le_of_ble_eq_true rfl) dX12_primary_67) (fun H locs hI => ?_)
      refine lv_if_ne (tgt := 78) hx hb dX12_primary_70 (by decide) (fun c35 => ?_) (fun c35 => ?_)
      · have hm := g_f c35 hm
        exact tX12_primary_78 N rc hn X hr fin fr lo hfr hlo hrc  q27 H locs ls hI (lv_sub hl [0] rfl) hm
      · have hm := g_t c35 hm
        refine lv_aload_n hx hb dX12_primary_73 rfl (lv_at hl 0 rfl) ?_
        refine lv_iconst (v := (1 : Int32)) hx hb dX12_primary_74 (by decide) ?_
        obtain ⟨q36, h37, hm⟩ := g_b hm
        refine backV X hI (runV X hI (ctX12_wrong (1 : Int32)  hn _ _ h37 _) mdX12_217 (la_99 hn) rfl ⟨rfl, rfl⟩ ⟨(show 0 + 1 ≤ fr + 1 by omega), (show 8 + (2 + 11) + 0 ≤ lo + 40 by omega)⟩ rfl hl.1 rfl (Nat.le_of_ble_eq_true rfl) dX12_primary_75) (fun H locs hI => ?_)
        exact tX12_primary_78 N rc hn X hr fin fr lo hfr hlo hrc  q36 H locs ls hI (lv_sub hl [0] rfl) hm
  · have hm := g_f c24 hm
    exact rV X hI hr (g_1 hm) dX12_primary_38
def fX12_primary (N : Nat) (rc : Nat → Mem → Option Mem)  (m : Mem) : Option Mem := if (m.1 99 30) = 0 then ((fX12_isSign (40 : Int32) m).bind (fun q2 => if q2 = 0 then (if (m.1 99 28) = (2 : Int32) then (fX12_primary_114 N rc (1 : Int32) m) else (fX12_primary_114 N rc (0 : Int32) m)) else (if (m.1 99 34) = (8 : Int32) then ((fX12_wrong (2 : Int32) m).bind (fun q38 => fX12_primary_31 N rc q38)) else (fX12_primary_31 N rc m)))) else (some m)
set_option maxHeartbeats 4000000 in
set_option maxRecDepth 100000 in
theorem ctX12_primary {l : Launch} {D : va_G} {ca : Nat → ClassId} {ad : Nat → Nat} (N : Nat) (rc : Nat → Mem → Option Mem)   (hn : HNr ca) (m : Mem) (fin : Mem) (fr lo : Nat) (hfr : 10 ≤ fr) (hlo : 250 ≤ lo) (hrc : RCH l D ca ad fr lo rc) (hm : fX12_primary N rc m = some fin) : CV l D ca ad yX12_primary cwX12_primary (rmG (fr + 1) (lo + 40)) [.ref (ad 99)] m fin := by
  refine start (by decide) (Nat.le_of_ble_eq_true rfl) ?_
  intro p e s mm args below meth c H locs ls X hI hr hl
  have X : CX p s mm args meth c cX12_primary 2 RX12 D ca ad (WA ca ad s.heap.size) := X
  have hx := X.1
  have hb := X.2.1
  have hl : lv_has ls 2 [(0, .ref (ad 99))] := hl
  have hm : (if (m.1 99 30) = 0 then ((fX12_isSign (40 : Int32) m).bind (fun q2 => if q2 = 0 then (if (m.1 99 28) = (2 : Int32) then (fX12_primary_114 N rc (1 : Int32) m) else (fX12_primary_114 N rc (0 : Int32) m)) else (if (m.1 99 34) = (8 : Int32) then ((fX12_wrong (2 : Int32) m).bind (fun q38 => fX12_primary_31 N rc q38)) else (fX12_primary_31 N rc m)))) else (some m)) = some fin := hm
  refine lv_aload_n hx hb dX12_primary_0 rfl (lv_at hl 0 rfl) ?_
  refine gI X hI fdX12_208 (la_99 hn) dX12_primary_1 ?_
  refine lv_if_eq (tgt := 8) hx hb dX12_primary_4 (by decide) (fun c1 => ?_) (fun c1 => ?_)
  · have hm := g_t c1 hm
    refine lv_aload_n hx hb dX12_primary_8 rfl (lv_at hl 0 rfl) ?_
    refine lv_bipush (v := (40 : Int32)) hx hb dX12_primary_9 (by decide) ?_
    obtain ⟨q2, h3, hm⟩ := g_b hm
    refine backI X hI (runV X hI (ctX12_isSign (40 : Int32)  hn _ _ h3 _) mdX12_261 (la_99 hn) rfl ⟨rfl, rfl⟩ ⟨(show 0 + 1 ≤ fr + 1 by omega), (show 8 + (2 + 11) + 0 ≤ lo + 40 by omega)⟩ rfl hl.1 rfl (Nat.le_of_ble_eq_true rfl) dX12_primary_11) (fun H locs hI => ?_)
    refine lv_if_eq (tgt := 101) hx hb dX12_primary_14 (by decide) (fun c4 => ?_) (fun c4 => ?_)
    · have hm := g_t c4 hm
      refine lv_aload_n hx hb dX12_primary_101 rfl (lv_at hl 0 rfl) ?_
      refine gI X hI fdX12_173 (la_99 hn) dX12_primary_102 ?_
      refine lv_iconst (v := (2 : Int32)) hx hb dX12_primary_105 (by decide) ?_
      refine lv_icmp_ne (tgt := 113) hx hb dX12_primary_106 (by decide) (fun c5 => ?_) (fun c5 => ?_)
      · have hm := g_f c5 hm
        refine lv_iconst (v := (0 : Int32)) hx hb dX12_primary_113 (by decide) ?_
        exact tX12_primary_114 N rc hn X hr fin fr lo hfr hlo hrc  (0 : Int32) m H locs ls hI (lv_sub hl [0] rfl) hm
      · have hm := g_t c5 hm
        refine lv_iconst (v := (1 : Int32)) hx hb dX12_primary_109 (by decide) ?_
        refine lv_goto (tgt := 114) hx hb dX12_primary_110 (by decide) ?_
        exact tX12_primary_114 N rc hn X hr fin fr lo hfr hlo hrc  (1 : Int32) m H locs ls hI (lv_sub hl [0] rfl) hm
    · have hm := g_f c4 hm
      refine lv_aload_n hx hb dX12_primary_17 rfl (lv_at hl 0 rfl) ?_
      refine gI X hI fdX12_297 (la_99 hn) dX12_primary_18 ?_
      refine lv_bipush (v := (8 : Int32)) hx hb dX12_primary_21 (by decide) ?_
      refine lv_icmp_ne (tgt := 31) hx hb dX12_primary_23 (by decide) (fun c23 => ?_) (fun c23 => ?_)
      · have hm := g_f c23 hm
        exact tX12_primary_31 N rc hn X hr fin fr lo hfr hlo hrc  m H locs ls hI (lv_sub hl [0] rfl) hm
      · have hm := g_t c23 hm
        refine lv_aload_n hx hb dX12_primary_26 rfl (lv_at hl 0 rfl) ?_
        refine lv_iconst (v := (2 : Int32)) hx hb dX12_primary_27 (by decide) ?_
        obtain ⟨q38, h39, hm⟩ := g_b hm
        refine backV X hI (runV X hI (ctX12_wrong (2 : Int32)  hn _ _ h39 _) mdX12_217 (la_99 hn) rfl ⟨rfl, rfl⟩ ⟨(show 0 + 1 ≤ fr + 1 by omega), (show 8 + (2 + 11) + 0 ≤ lo + 40 by omega)⟩ rfl hl.1 rfl (Nat.le_of_ble_eq_true rfl) dX12_primary_28) (fun H locs hI => ?_)
        exact tX12_primary_31 N rc hn X hr fin fr lo hfr hlo hrc  q38 H locs ls hI (lv_sub hl [0] rfl) hm
  · have hm := g_f c1 hm
    exact rV X hI hr (g_1 hm) dX12_primary_7

def fX12_matches_80 (N : Nat) (rc : Int32 → Int32 → Int32 → Int32 → Mem → Option Mem) : Nat → Int32 → Int32 → Int32 → Int32 → Int32 → Mem → Option Mem
  | 0, _, _, _, _, _, _ => none
  | n + 1, x1, x2, x3, x4, x5, m => if (m.1 101 1) ≤ x5 then (if x1 < 0 ∨ 6 ≤ x1.toNatClampNeg then none else ((rc (x1 + (1 : Int32)) x2 x3 x4 (mI m 134 x1.toNatClampNeg (-2 : Int32))).bind (fun q4 => some q4))) else (if ((x2 >>> (x5 &&& 31)) &&& (1 : Int32)) = (1 : Int32) then (fX12_matches_80 N rc n x1 x2 x3 x4 (x5 + (1 : Int32)) m) else ((fX12_isAtEase N (0 : Int32) x1 x5 (0 : Int32) m).bind (fun q7 => if q7.1 = 0 then (fX12_matches_80 N rc n x1 x2 x3 x4 (x5 + (1 : Int32)) q7.2) else (if x1 < 0 ∨ 6 ≤ x1.toNatClampNeg then none else (if x5 < 0 ∨ 138 ≤ x5.toNatClampNeg then none else ((rc (x1 + (1 : Int32)) (x2 ||| ((1 : Int32) <<< (x5 &&& 31))) (x3 + (1 : Int32)) (x4 + ((mI q7.2 134 x1.toNatClampNeg x5).1 127 x5.toNatClampNeg)) (mI q7.2 134 x1.toNatClampNeg x5)).bind (fun q12 => fX12_matches_80 N rc n x1 x2 x3 x4 (x5 + (1 : Int32)) q12)))))))
set_option maxHeartbeats 4000000 in
set_option maxRecDepth 100000 in
theorem tX12_matches_80 (N : Nat) (rc : Int32 → Int32 → Int32 → Int32 → Mem → Option Mem) {l : Launch} {D : va_G} {ca : Nat → ClassId} {ad : Nat → Nat} {p : Program} {e : Env} {s : State} {mm : MethodId} {args : Array Value} {below : List Frame} {meth : Method} {c : Code}  (hn : HNr ca) (X : CX p s mm args meth c cX12_matches 6 RX12 D ca ad (WA ca ad s.heap.size)) (hr : meth.sig.returnType = none) (fin : Mem) (fr lo : Nat) (hfr : 10 ≤ fr) (hlo : 250 ≤ lo) (hrc : RCM l D ca ad fr lo rc)  : ∀ (n : Nat) (x1 : Int32) (x2 : Int32) (x3 : Int32) (x4 : Int32) (x5 : Int32) (m : Mem) (H : Heap) (locs : List Loc) (ls : Array Slot), IW D ca ad (WA ca ad s.heap.size) s m H locs → lv_has ls 6 [(0, .ref (ad 99)), (1, .int x1), (2, .int x2), (3, .int x3), (4, .int x4), (5, .int x5)] → fX12_matches_80 N rc n x1 x2 x3 x4 x5 m = some fin → W p l e (rmG (fr + 1) (lo + 40)) s mm args below meth c H locs 0 0 (MQ below (QV D ca ad s.heap.size fin) args s 0 0 (WA ca ad s.heap.size)) (F0 mm 80 ls []) := by
  have hx := X.1
  have hb := X.2.1
  intro n
  induction n with
  | zero => intro x1 x2 x3 x4 x5 m H locs ls hI hl hm
            exact absurd hm (by intro q; cases q)
  | succ n ih =>
    intro x1 x2 x3 x4 x5 m H locs ls hI hl hm
    have hm : (if (m.1 101 1) ≤ x5 then (if x1 < 0 ∨ 6 ≤ x1.toNatClampNeg then none else ((rc (x1 + (1 : Int32)) x2 x3 x4 (mI m 134 x1.toNatClampNeg (-2 : Int32))).bind (fun q4 => some q4))) else (if ((x2 >>> (x5 &&& 31)) &&& (1 : Int32)) = (1 : Int32) then (fX12_matches_80 N rc n x1 x2 x3 x4 (x5 + (1 : Int32)) m) else ((fX12_isAtEase N (0 : Int32) x1 x5 (0 : Int32) m).bind (fun q7 => if q7.1 = 0 then (fX12_matches_80 N rc n x1 x2 x3 x4 (x5 + (1 : Int32)) q7.2) else (if x1 < 0 ∨ 6 ≤ x1.toNatClampNeg then none else (if x5 < 0 ∨ 138 ≤ x5.toNatClampNeg then none else ((rc (x1 + (1 : Int32)) (x2 ||| ((1 : Int32) <<< (x5 &&& 31))) (x3 + (1 : Int32)) (x4 + ((mI q7.2 134 x1.toNatClampNeg x5).1 127 x5.toNatClampNeg)) (mI q7.2 134 x1.toNatClampNeg x5)).bind (fun q12 => fX12_matches_80 N rc n x1 x2 x3 x4 (x5 + (1 : Int32)) q12)))))))) = some fin := hm
    refine lv_iload hx hb dX12_matches_80 (lv_at hl 5 rfl) ?_
    refine lv_aload_n hx hb dX12_matches_82 rfl (lv_at hl 0 rfl) ?_
    refine gR X hI fdX12_13 (la_99 hn) rf12_3 dX12_matches_83 ?_
    refine lv_iconst (v := (1 : Int32)) hx hb dX12_matches_86 (by decide) ?_
    refine aIc (j := 1) X hI (la_101 hn) (by decide) (by decide) dX12_matches_87 ?_
    refine lv_icmp_ge (tgt := 156) hx hb dX12_matches_88 (by decide) (fun c2 => ?_) (fun c2 => ?_)
    · have hm := g_t c2 hm
      refine lv_aload_n hx hb dX12_matches_156 rfl (lv_at hl 0 rfl) ?_
      refine gR X hI fdX12_120 (la_99 hn) rf12_54 dX12_matches_157 ?_
      refine lv_iload_n hx hb dX12_matches_160 rfl (lv_at hl 1 rfl) ?_
      refine lv_bipush (v := (-2 : Int32)) hx hb dX12_matches_161 (by decide) ?_
      obtain ⟨g3, hm⟩ := g_no hm
      refine sI X hI (la_134 hn) g3 dX12_matches_163 (fun H locs hI => ?_)
      refine lv_aload_n hx hb dX12_matches_164 rfl (lv_at hl 0 rfl) ?_
      refine lv_iload_n hx hb dX12_matches_165 rfl (lv_at hl 1 rfl) ?_
      refine lv_iconst (v := (1 : Int32)) hx hb dX12_matches_166 (by decide) ?_
      refine lv_iadd hx hb dX12_matches_167 ?_
      refine lv_iload_n hx hb dX12_matches_168 rfl (lv_at hl 2 rfl) ?_
      refine lv_iload_n hx hb dX12_matches_169 rfl (lv_at hl 3 rfl) ?_
      refine lv_iload hx hb dX12_matches_170 (lv_at hl 4 rfl) ?_
      obtain ⟨q4, h5, hm⟩ := g_b hm
      refine backV X hI (runV X hI (hrc _ _ _ _ _ _ h5 _) mdX12_458 (la_99 hn) rfl ⟨rfl, rfl⟩ ⟨Nat.le_refl _, (show 8 + (6 + 11) + lo ≤ lo + 40 by omega)⟩ rfl hl.1 rfl (Nat.le_of_ble_eq_true rfl) dX12_matches_172) (fun H locs hI => ?_)
      exact rV X hI hr (g_1 hm) dX12_matches_175
    · have hm := g_f c2 hm
      refine lv_iload_n hx hb dX12_matches_91 rfl (lv_at hl 2 rfl) ?_
      refine lv_iload hx hb dX12_matches_92 (lv_at hl 5 rfl) ?_
      refine lv_ishr hx hb dX12_matches_94 ?_
      refine lv_iconst (v := (1 : Int32)) hx hb dX12_matches_95 (by decide) ?_
      refine lv_iand hx hb dX12_matches_96 ?_
      refine lv_iconst (v := (1 : Int32)) hx hb dX12_matches_97 (by decide) ?_
      refine lv_icmp_eq (tgt := 150) hx hb dX12_matches_98 (by decide) (fun c6 => ?_) (fun c6 => ?_)
      · have hm := g_t c6 hm
        refine lv_iinc (v := (x5 + (1 : Int32))) (lv' := [(5, .int (x5 + (1 : Int32))), (0, .ref (ad 99)), (1, .int x1), (2, .int x2), (3, .int x3), (4, .int x4)]) hx hb dX12_matches_150 hl (k := 5) rfl rfl (by decide) rfl (fun ls hl => ?_)
        refine lv_goto (tgt := 80) hx hb dX12_matches_153 (by decide) ?_
        exact ih x1 x2 x3 x4 (x5 + (1 : Int32)) m H locs ls hI (lv_sub hl [1, 2, 3, 4, 5, 0] rfl) hm
      · have hm := g_f c6 hm
        refine lv_aload_n hx hb dX12_matches_101 rfl (lv_at hl 0 rfl) ?_
        refine lv_iconst (v := (0 : Int32)) hx hb dX12_matches_102 (by decide) ?_
        refine lv_iload_n hx hb dX12_matches_103 rfl (lv_at hl 1 rfl) ?_
        refine lv_iload hx hb dX12_matches_104 (lv_at hl 5 rfl) ?_
        refine lv_iconst (v := (0 : Int32)) hx hb dX12_matches_106 (by decide) ?_
        obtain ⟨q7, h8, hm⟩ := g_b hm
        refine backI X hI (runV X hI (ctX12_isAtEase N (0 : Int32) x1 x5 (0 : Int32)  hn _ _ h8 _) mdX12_382 (la_99 hn) rfl ⟨rfl, rfl⟩ ⟨(show 3 + 1 ≤ fr + 1 by omega), (show 8 + (5 + 11) + 73 ≤ lo + 40 by omega)⟩ rfl hl.1 rfl (Nat.le_of_ble_eq_true rfl) dX12_matches_107) (fun H locs hI => ?_)
        refine lv_if_ne (tgt := 116) hx hb dX12_matches_110 (by decide) (fun c9 => ?_) (fun c9 => ?_)
        · have hm := g_f c9 hm
          refine lv_aload_n hx hb dX12_matches_116 rfl (lv_at hl 0 rfl) ?_
          refine gR X hI fdX12_120 (la_99 hn) rf12_54 dX12_matches_117 ?_
          refine lv_iload_n hx hb dX12_matches_120 rfl (lv_at hl 1 rfl) ?_
          refine lv_iload hx hb dX12_matches_121 (lv_at hl 5 rfl) ?_
          obtain ⟨g10, hm⟩ := g_no hm
          refine sI X hI (la_134 hn) g10 dX12_matches_123 (fun H locs hI => ?_)
          refine lv_aload_n hx hb dX12_matches_124 rfl (lv_at hl 0 rfl) ?_
          refine lv_iload_n hx hb dX12_matches_125 rfl (lv_at hl 1 rfl) ?_
          refine lv_iconst (v := (1 : Int32)) hx hb dX12_matches_126 (by decide) ?_
          refine lv_iadd hx hb dX12_matches_127 ?_
          refine lv_iload_n hx hb dX12_matches_128 rfl (lv_at hl 2 rfl) ?_
          refine lv_iconst (v := (1 : Int32)) hx hb dX12_matches_129 (by decide) ?_
          refine lv_iload hx hb dX12_matches_130 (lv_at hl 5 rfl) ?_
          refine lv_ishl hx hb dX12_matches_132 ?_
          refine lv_ior hx hb dX12_matches_133 ?_
          refine lv_iload_n hx hb dX12_matches_134 rfl (lv_at hl 3 rfl) ?_
          refine lv_iconst (v := (1 : Int32)) hx hb dX12_matches_135 (by decide) ?_
          refine lv_iadd hx hb dX12_matches_136 ?_
          refine lv_iload hx hb dX12_matches_137 (lv_at hl 4 rfl) ?_
          refine lv_aload_n hx hb dX12_matches_139 rfl (lv_at hl 0 rfl) ?_
          refine gR X hI fdX12_96 (la_99 hn) rf12_43 dX12_matches_140 ?_
          refine lv_iload hx hb dX12_matches_143 (lv_at hl 5 rfl) ?_
          obtain ⟨g11, hm⟩ := g_no hm
          refine aI X hI (la_127 hn) g11 dX12_matches_145 ?_
          refine lv_iadd hx hb dX12_matches_146 ?_
          obtain ⟨q12, h13, hm⟩ := g_b hm
          refine backV X hI (runV X hI (hrc _ _ _ _ _ _ h13 _) mdX12_458 (la_99 hn) rfl ⟨rfl, rfl⟩ ⟨Nat.le_refl _, (show 8 + (6 + 11) + lo ≤ lo + 40 by omega)⟩ rfl hl.1 rfl (Nat.le_of_ble_eq_true rfl) dX12_matches_147) (fun H locs hI => ?_)
          refine lv_iinc (v := (x5 + (1 : Int32))) (lv' := [(5, .int (x5 + (1 : Int32))), (0, .ref (ad 99)), (1, .int x1), (2, .int x2), (3, .int x3), (4, .int x4)]) hx hb dX12_matches_150 hl (k := 5) rfl rfl (by decide) rfl (fun ls hl => ?_)
          refine lv_goto (tgt := 80) hx hb dX12_matches_153 (by decide) ?_
          exact ih x1 x2 x3 x4 (x5 + (1 : Int32)) q12 H locs ls hI (lv_sub hl [1, 2, 3, 4, 5, 0] rfl) hm
        · have hm := g_t c9 hm
          refine lv_goto (tgt := 150) hx hb dX12_matches_113 (by decide) ?_
          refine lv_iinc (v := (x5 + (1 : Int32))) (lv' := [(5, .int (x5 + (1 : Int32))), (0, .ref (ad 99)), (1, .int x1), (2, .int x2), (3, .int x3), (4, .int x4)]) hx hb dX12_matches_150 hl (k := 5) rfl rfl (by decide) rfl (fun ls hl => ?_)
          refine lv_goto (tgt := 80) hx hb dX12_matches_153 (by decide) ?_
          exact ih x1 x2 x3 x4 (x5 + (1 : Int32)) q7.2 H locs ls hI (lv_sub hl [1, 2, 3, 4, 5, 0] rfl) hm
def fX12_matches_50 (N : Nat) (rc : Int32 → Int32 → Int32 → Int32 → Mem → Option Mem) : Nat → Int32 → Int32 → Mem → Option Mem
  | 0, _, _, _ => none
  | n + 1, x1, x5, m => if x1 ≤ x5 then (some m) else (if x5 < 0 ∨ 6 ≤ x5.toNatClampNeg then none else (if x5 < 0 ∨ 6 ≤ x5.toNatClampNeg then none else (fX12_matches_50 N rc n x1 (x5 + (1 : Int32)) (mI m 135 x5.toNatClampNeg (m.1 134 x5.toNatClampNeg)))))
set_option maxHeartbeats 4000000 in
set_option maxRecDepth 100000 in
theorem tX12_matches_50 (N : Nat) (rc : Int32 → Int32 → Int32 → Int32 → Mem → Option Mem) {l : Launch} {D : va_G} {ca : Nat → ClassId} {ad : Nat → Nat} {p : Program} {e : Env} {s : State} {mm : MethodId} {args : Array Value} {below : List Frame} {meth : Method} {c : Code}  (hn : HNr ca) (X : CX p s mm args meth c cX12_matches 6 RX12 D ca ad (WA ca ad s.heap.size)) (hr : meth.sig.returnType = none) (fin : Mem) (fr lo : Nat) (hfr : 10 ≤ fr) (hlo : 250 ≤ lo) (hrc : RCM l D ca ad fr lo rc)  : ∀ (n : Nat) (x1 : Int32) (x5 : Int32) (m : Mem) (H : Heap) (locs : List Loc) (ls : Array Slot), IW D ca ad (WA ca ad s.heap.size) s m H locs → lv_has ls 6 [(0, .ref (ad 99)), (1, .int x1), (5, .int x5)] → fX12_matches_50 N rc n x1 x5 m = some fin → W p l e (rmG (fr + 1) (lo + 40)) s mm args below meth c H locs 0 0 (MQ below (QV D ca ad s.heap.size fin) args s 0 0 (WA ca ad s.heap.size)) (F0 mm 50 ls []) := by
  have hx := X.1
  have hb := X.2.1
  intro n
  induction n with
  | zero => intro x1 x5 m H locs ls hI hl hm
            exact absurd hm (by intro q; cases q)
  | succ n ih =>
    intro x1 x5 m H locs ls hI hl hm
    have hm : (if x1 ≤ x5 then (some m) else (if x5 < 0 ∨ 6 ≤ x5.toNatClampNeg then none else (if x5 < 0 ∨ 6 ≤ x5.toNatClampNeg then none else (fX12_matches_50 N rc n x1 (x5 + (1 : Int32)) (mI m 135 x5.toNatClampNeg (m.1 134 x5.toNatClampNeg)))))) = some fin := hm
    refine lv_iload hx hb dX12_matches_50 (lv_at hl 2 rfl) ?_
    refine lv_iload_n hx hb dX12_matches_52 rfl (lv_at hl 1 rfl) ?_
    refine lv_icmp_ge (tgt := 76) hx hb dX12_matches_53 (by decide) (fun c16 => ?_) (fun c16 => ?_)
    · have hm := g_t c16 hm
      exact rV X hI hr (g_1 hm) dX12_matches_76
    · have hm := g_f c16 hm
      refine lv_aload_n hx hb dX12_matches_56 rfl (lv_at hl 0 rfl) ?_
      refine gR X hI fdX12_123 (la_99 hn) rf12_55 dX12_matches_57 ?_
      refine lv_iload hx hb dX12_matches_60 (lv_at hl 2 rfl) ?_
      refine lv_aload_n hx hb dX12_matches_62 rfl (lv_at hl 0 rfl) ?_
      refine gR X hI fdX12_120 (la_99 hn) rf12_54 dX12_matches_63 ?_
      refine lv_iload hx hb dX12_matches_66 (lv_at hl 2 rfl) ?_
      obtain ⟨g17, hm⟩ := g_no hm
      refine aI X hI (la_134 hn) g17 dX12_matches_68 ?_
      obtain ⟨g18, hm⟩ := g_no hm
      refine sI X hI (la_135 hn) g18 dX12_matches_69 (fun H locs hI => ?_)
      refine lv_iinc (v := (x5 + (1 : Int32))) (lv' := [(5, .int (x5 + (1 : Int32))), (0, .ref (ad 99)), (1, .int x1)]) hx hb dX12_matches_70 hl (k := 2) rfl rfl (by decide) rfl (fun ls hl => ?_)
      refine lv_goto (tgt := 50) hx hb dX12_matches_73 (by decide) ?_
      exact ih x1 (x5 + (1 : Int32)) (mI m 135 x5.toNatClampNeg (m.1 134 x5.toNatClampNeg)) H locs ls hI (lv_sub hl [1, 2, 0] rfl) hm
def fX12_matches_36 (N : Nat) (rc : Int32 → Int32 → Int32 → Int32 → Mem → Option Mem) (x1 : Int32) (x3 : Int32) (x4 : Int32) (m : Mem) : Option Mem := fX12_matches_50 N rc N x1 (0 : Int32) (mI (mI m 99 56 x3) 99 57 x4)
set_option maxHeartbeats 4000000 in
set_option maxRecDepth 100000 in
theorem tX12_matches_36 (N : Nat) (rc : Int32 → Int32 → Int32 → Int32 → Mem → Option Mem) {l : Launch} {D : va_G} {ca : Nat → ClassId} {ad : Nat → Nat} {p : Program} {e : Env} {s : State} {mm : MethodId} {args : Array Value} {below : List Frame} {meth : Method} {c : Code}  (hn : HNr ca) (X : CX p s mm args meth c cX12_matches 6 RX12 D ca ad (WA ca ad s.heap.size)) (hr : meth.sig.returnType = none) (fin : Mem) (fr lo : Nat) (hfr : 10 ≤ fr) (hlo : 250 ≤ lo) (hrc : RCM l D ca ad fr lo rc)  : ∀ (x1 : Int32) (x3 : Int32) (x4 : Int32) (m : Mem) (H : Heap) (locs : List Loc) (ls : Array Slot), IW D ca ad (WA ca ad s.heap.size) s m H locs → lv_has ls 6 [(0, .ref (ad 99)), (1, .int x1), (3, .int x3), (4, .int x4)] → fX12_matches_36 N rc x1 x3 x4 m = some fin → W p l e (rmG (fr + 1) (lo + 40)) s mm args below meth c H locs 0 0 (MQ below (QV D ca ad s.heap.size fin) args s 0 0 (WA ca ad s.heap.size)) (F0 mm 36 ls []) := by
  have hx := X.1
  have hb := X.2.1
  intro x1 x3 x4 m H locs ls hI hl hm
  have hm : (fX12_matches_50 N rc N x1 (0 : Int32) (mI (mI m 99 56 x3) 99 57 x4)) = some fin := hm
  refine lv_aload_n hx hb dX12_matches_36 rfl (lv_at hl 0 rfl) ?_
  refine lv_iload_n hx hb dX12_matches_37 rfl (lv_at hl 2 rfl) ?_
  refine pI X hI fpX12_452 (la_99 hn) dX12_matches_38 (fun H locs hI => ?_)
  refine lv_aload_n hx hb dX12_matches_41 rfl (lv_at hl 0 rfl) ?_
  refine lv_iload hx hb dX12_matches_42 (lv_at hl 3 rfl) ?_
  refine pI X hI fpX12_455 (la_99 hn) dX12_matches_44 (fun H locs hI => ?_)
  refine lv_iconst (v := (0 : Int32)) hx hb dX12_matches_47 (by decide) ?_
  refine lv_istore (lv' := [(5, .int (0 : Int32)), (0, .ref (ad 99)), (1, .int x1), (3, .int x3), (4, .int x4)]) hx hb dX12_matches_48 hl (by decide) rfl (fun ls hl => ?_)
  exact tX12_matches_50 N rc hn X hr fin fr lo hfr hlo hrc  N x1 (0 : Int32) (mI (mI m 99 56 x3) 99 57 x4) H locs ls hI (lv_sub hl [1, 2, 0] rfl) hm
def fX12_matches (N : Nat) (rc : Int32 → Int32 → Int32 → Int32 → Mem → Option Mem) (x1 : Int32) (x2 : Int32) (x3 : Int32) (x4 : Int32) (m : Mem) : Option Mem := if x1 = (m.1 101 0) then (if x3 < (m.1 99 56) then (some m) else (if x3 = (m.1 99 56) then (if (m.1 99 57) < x4 then (fX12_matches_36 N rc x1 x3 x4 m) else (some m)) else (fX12_matches_36 N rc x1 x3 x4 m))) else (fX12_matches_80 N rc N x1 x2 x3 x4 (0 : Int32) m)
set_option maxHeartbeats 4000000 in
set_option maxRecDepth 100000 in
theorem ctX12_matches {l : Launch} {D : va_G} {ca : Nat → ClassId} {ad : Nat → Nat} (N : Nat) (rc : Int32 → Int32 → Int32 → Int32 → Mem → Option Mem) (x1 : Int32) (x2 : Int32) (x3 : Int32) (x4 : Int32)  (hn : HNr ca) (m : Mem) (fin : Mem) (fr lo : Nat) (hfr : 10 ≤ fr) (hlo : 250 ≤ lo) (hrc : RCM l D ca ad fr lo rc) (hm : fX12_matches N rc x1 x2 x3 x4 m = some fin) : CV l D ca ad yX12_matches cwX12_matches (rmG (fr + 1) (lo + 40)) [.ref (ad 99), .int x1, .int x2, .int x3, .int x4] m fin := by
  refine start (by decide) (Nat.le_of_ble_eq_true rfl) ?_
  intro p e s mm args below meth c H locs ls X hI hr hl
  have X : CX p s mm args meth c cX12_matches 6 RX12 D ca ad (WA ca ad s.heap.size) := X
  have hx := X.1
  have hb := X.2.1
  have hl : lv_has ls 6 [(0, .ref (ad 99)), (1, .int x1), (2, .int x2), (3, .int x3), (4, .int x4)] := hl
  have hm : (if x1 = (m.1 101 0) then (if x3 < (m.1 99 56) then (some m) else (if x3 = (m.1 99 56) then (if (m.1 99 57) < x4 then (fX12_matches_36 N rc x1 x3 x4 m) else (some m)) else (fX12_matches_36 N rc x1 x3 x4 m))) else (fX12_matches_80 N rc N x1 x2 x3 x4 (0 : Int32) m)) = some fin := hm
  refine lv_iload_n hx hb dX12_matches_0 rfl (lv_at hl 1 rfl) ?_
  refine lv_aload_n hx hb dX12_matches_1 rfl (lv_at hl 0 rfl) ?_
  refine gR X hI fdX12_13 (la_99 hn) rf12_3 dX12_matches_2 ?_
  refine lv_iconst (v := (0 : Int32)) hx hb dX12_matches_5 (by decide) ?_
  refine aIc (j := 0) X hI (la_101 hn) (by decide) (by decide) dX12_matches_6 ?_
  refine lv_icmp_ne (tgt := 77) hx hb dX12_matches_7 (by decide) (fun c1 => ?_) (fun c1 => ?_)
  · have hm := g_f c1 hm
    refine lv_iconst (v := (0 : Int32)) hx hb dX12_matches_77 (by decide) ?_
    refine lv_istore (lv' := [(5, .int (0 : Int32)), (0, .ref (ad 99)), (1, .int x1), (2, .int x2), (3, .int x3), (4, .int x4)]) hx hb dX12_matches_78 hl (by decide) rfl (fun ls hl => ?_)
    exact tX12_matches_80 N rc hn X hr fin fr lo hfr hlo hrc  N x1 x2 x3 x4 (0 : Int32) m H locs ls hI (lv_sub hl [1, 2, 3, 4, 5, 0] rfl) hm
  · have hm := g_t c1 hm
    refine lv_iload_n hx hb dX12_matches_10 rfl (lv_at hl 3 rfl) ?_
    refine lv_aload_n hx hb dX12_matches_11 rfl (lv_at hl 0 rfl) ?_
    refine gI X hI fdX12_452 (la_99 hn) dX12_matches_12 ?_
    refine lv_icmp_lt (tgt := 35) hx hb dX12_matches_15 (by decide) (fun c14 => ?_) (fun c14 => ?_)
    · have hm := g_t c14 hm
      exact rV X hI hr (g_1 hm) dX12_matches_35
    · have hm := g_f c14 hm
      refine lv_iload_n hx hb dX12_matches_18 rfl (lv_at hl 3 rfl) ?_
      refine lv_aload_n hx hb dX12_matches_19 rfl (lv_at hl 0 rfl) ?_
      refine gI X hI fdX12_452 (la_99 hn) dX12_matches_20 ?_
      refine lv_icmp_ne (tgt := 36) hx hb dX12_matches_23 (by decide) (fun c15 => ?_) (fun c15 => ?_)
      · have hm := g_f c15 hm
        exact tX12_matches_36 N rc hn X hr fin fr lo hfr hlo hrc  x1 x3 x4 m H locs ls hI (lv_sub hl [0, 1, 3, 4] rfl) hm
      · have hm := g_t c15 hm
        refine lv_iload hx hb dX12_matches_26 (lv_at hl 4 rfl) ?_
        refine lv_aload_n hx hb dX12_matches_28 rfl (lv_at hl 0 rfl) ?_
        refine gI X hI fdX12_455 (la_99 hn) dX12_matches_29 ?_
        refine lv_icmp_gt (tgt := 36) hx hb dX12_matches_32 (by decide) (fun c19 => ?_) (fun c19 => ?_)
        · have hm := g_t c19 hm
          exact tX12_matches_36 N rc hn X hr fin fr lo hfr hlo hrc  x1 x3 x4 m H locs ls hI (lv_sub hl [0, 1, 3, 4] rfl) hm
        · have hm := g_f c19 hm
          exact rV X hI hr (g_1 hm) dX12_matches_35

def fGrp (N : Nat) : Nat → Nat → Mem → Option Mem
  | 0, _, _ => none
  | d + 1, 0, m => fX12_expression N (fGrp N d) m
  | d + 1, 1, m => fX12_conjunction N (fGrp N d) m
  | d + 1, 2, m => fX12_negation N (fGrp N d) m
  | d + 1, 3, m => fX12_sum N (fGrp N d) m
  | d + 1, 4, m => fX12_product N (fGrp N d) m
  | d + 1, 5, m => fX12_primary N (fGrp N d) m
  | _ + 1, _ + 6, _ => none
theorem grp {l : Launch} {D : va_G} {ca : Nat → ClassId} {ad : Nat → Nat} (N : Nat) (hn : HNr ca) : ∀ d, RCH l D ca ad (10 + d) (250 + 40 * d) (fGrp N d)
  | 0 => ⟨(fun m m' h => by cases h), (fun m m' h => by cases h), (fun m m' h => by cases h), (fun m m' h => by cases h), (fun m m' h => by cases h), (fun m m' h => by cases h)⟩
  | d + 1 => ⟨(fun m m' h => ctX12_expression N (fGrp N d) hn m m' (10 + d) (250 + 40 * d) (by omega) (by omega) (grp N hn d) h), (fun m m' h => ctX12_conjunction N (fGrp N d) hn m m' (10 + d) (250 + 40 * d) (by omega) (by omega) (grp N hn d) h), (fun m m' h => ctX12_negation N (fGrp N d) hn m m' (10 + d) (250 + 40 * d) (by omega) (by omega) (grp N hn d) h), (fun m m' h => ctX12_sum N (fGrp N d) hn m m' (10 + d) (250 + 40 * d) (by omega) (by omega) (grp N hn d) h), (fun m m' h => ctX12_product N (fGrp N d) hn m m' (10 + d) (250 + 40 * d) (by omega) (by omega) (grp N hn d) h), (fun m m' h => ctX12_primary N (fGrp N d) hn m m' (10 + d) (250 + 40 * d) (by omega) (by omega) (grp N hn d) h)⟩
def fExpr (N : Nat) (m : Mem) : Option Mem := fGrp N 200 0 m
abbrev rmX12_expression : Room := rmG 210 8250
theorem ctExpr {l : Launch} {D : va_G} {ca : Nat → ClassId} {ad : Nat → Nat} (N : Nat) (hn : HNr ca) (m m' : Mem) (h : fExpr N m = some m') : CV l D ca ad yX12_expression cwX12_expression rmX12_expression [.ref (ad 99)] m m' := (grp N hn 200).1 m m' h
def fMatR (N : Nat) : Nat → Int32 → Int32 → Int32 → Int32 → Mem → Option Mem
  | 0, _, _, _, _, _ => none
  | d + 1, a, b, c, e, m => fX12_matches N (fMatR N d) a b c e m
theorem matR {l : Launch} {D : va_G} {ca : Nat → ClassId} {ad : Nat → Nat} (N : Nat) (hn : HNr ca) : ∀ d, RCM l D ca ad (10 + d) (250 + 40 * d) (fMatR N d)
  | 0 => fun a b c d m m' h => by cases h
  | d + 1 => fun a b c e m m' h => ctX12_matches N (fMatR N d) a b c e hn m m' (10 + d) (250 + 40 * d) (by omega) (by omega) (matR N hn d) h
def fMat (N : Nat) (a b c d : Int32) (m : Mem) : Option Mem := fMatR N 8 a b c d m
abbrev rmX12_matches : Room := rmG 18 570
theorem ctMat {l : Launch} {D : va_G} {ca : Nat → ClassId} {ad : Nat → Nat} (N : Nat) (a b c d : Int32) (hn : HNr ca) (m m' : Mem) (h : fMat N a b c d m = some m') : CV l D ca ad yX12_matches cwX12_matches rmX12_matches [.ref (ad 99), .int a, .int b, .int c, .int d] m m' := matR N hn 8 a b c d m m' h
